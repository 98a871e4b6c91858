section
variable {n lv ql tm wn : Int32} {tu en ow ta mk wf tr lg wk wt qu wo hw wa : Nat → Int32}
theorem tp_gv_t {tk : Bool} {b c w : Int32} : ∀ {L : List tp_E}, (∀ e, e ∈ L → tp_ok e) → ∀ {t : Int32} {L' : List tp_E}, tp_gv tk b c w L = some (t, L') → ∃ a : Nat, a < 256 ∧ t = nI a := by
  intro L
  induction L with
  | nil => intro _ t L' h; simp [tp_gv] at h
  | cons e B ih =>
    intro hok t L' h
    rw [tp_gv] at h
    by_cases hp : tp_P tk c w e = true
    · rw [if_pos hp] at h
      injection h with h
      injection h with h1 h2
      rw [← h1]
      exact (hok e (by simp)).1
    · rw [if_neg hp, Option.map_eq_some_iff] at h
      obtain ⟨p, hp1, hp2⟩ := h
      injection hp2 with h1 h2
      rw [← h1]
      exact ih (fun x hx => hok x (List.mem_cons_of_mem _ hx)) (L' := p.2) hp1
theorem tp_n4 {t : Int32} (h : ∃ a : Nat, a < 256 ∧ t = nI a) : ¬ t = -4 := by
  obtain ⟨a, ha, rfl⟩ := h
  exact fun z => nI_pos (n := a) (by omega) (by rw [z]; decide)
/-! one service -/
def tp_sv (tr : Nat → Int32) : List tp_T → List tp_E → (Nat → Int32) → List tp_T × List tp_E × (Nat → Int32)
  | [], L, lg => ([], L, lg)
  | q :: R, L, lg => match tp_gv (decide (q.2.1 = 1)) (tr q.1) (nI q.1) (nI q.2.2) L with
    | none => (q :: (tp_sv tr R L lg).1, (tp_sv tr R L lg).2)
    | some p => tp_sv tr R p.2 (upd lg q.1 p.1)
theorem tp_sv_n {q : tp_T} {R : List tp_T} {L : List tp_E} (h : tp_gv (decide (q.2.1 = 1)) (tr q.1) (nI q.1) (nI q.2.2) L = none) :
    tp_sv tr (q :: R) L lg = (q :: (tp_sv tr R L lg).1, (tp_sv tr R L lg).2) := by
  rw [tp_sv, h]
theorem tp_sv_s {q : tp_T} {R : List tp_T} {L L' : List tp_E} {t : Int32} (h : tp_gv (decide (q.2.1 = 1)) (tr q.1) (nI q.1) (nI q.2.2) L = some (t, L')) :
    tp_sv tr (q :: R) L lg = tp_sv tr R L' (upd lg q.1 t) := by
  rw [tp_sv, h]
theorem tp_sv_sub : ∀ (R : List tp_T) (L : List tp_E) (lg : Nat → Int32), (tp_sv tr R L lg).1.Sublist R := by
  intro R
  induction R with
  | nil => intro L lg; exact List.Sublist.refl _
  | cons q R ih =>
    intro L lg
    cases h : tp_gv (decide (q.2.1 = 1)) (tr q.1) (nI q.1) (nI q.2.2) L with
    | none =>
      rw [tp_sv_n h]
      exact (ih L lg).cons_cons q
    | some p =>
      rw [tp_sv_s (t := p.1) (L' := p.2) h]
      exact (ih _ _).cons q
theorem tp_kd {h : Nat} (hh : h < 2) : nI (h + 1) = if decide (h = 1) = true then 2 else 1 := by
  obtain rfl | rfl : h = 0 ∨ h = 1 := by omega
  · rfl
  · rfl
theorem tp_xserve4 {post : SX → Prop} : ∀ (R K : List tp_T) (L : List tp_E) (T m : Nat) (tu en ow ta mk wf lg wk qu : Nat → Int32), K.length ≤ T → T + R.length ≤ 4 → R.length < m →
    tp_X L tu en ow ta mk wf → tp_QQ K qu → tp_QO (K ++ R) → tp_K (K ++ R) wk wt →
    (∀ (i : Nat) (q : tp_T), R[i]? = some q → qu (T + i) = nI q.1) →
    (∀ tu' en' ow' ta' mk' wf' wk' qu' : Nat → Int32, tp_X (tp_sv tr R L lg).2.1 tu' en' ow' ta' mk' wf' → tp_QQ (K ++ (tp_sv tr R L lg).1) qu' → tp_K (K ++ (tp_sv tr R L lg).1) wk' wt →
      post (nI (tp_sv tr R L lg).2.1.length, lv, nI (K ++ (tp_sv tr R L lg).1).length, tm, tu', en', ow', ta', mk', wf', tr, (tp_sv tr R L lg).2.2, wk', wt, qu')) →
    wX_serve_4 post m (nI K.length) (nI T) (nI L.length) lv (nI (T + R.length)) tm tu en ow ta mk wf tr lg wk wt qu := by
  intro R
  induction R with
  | nil =>
    intro K L T m tu en ow ta mk wf lg wk qu hT h4 hm hX hK hO hW hR k
    obtain ⟨m, rfl⟩ : ∃ p, m = p + 1 := ⟨m - 1, by omega⟩
    rw [List.append_nil] at hW
    rw [tp_sv, List.append_nil] at k
    exact br_t (Int32.le_refl _) (k _ _ _ _ _ _ _ _ hX hK hW)
  | cons q R ih =>
    intro K L T m tu en ow ta mk wf lg wk qu hT h4 hm hX hK hO hW hR k
    obtain ⟨m, rfl⟩ : ∃ p, m = p + 1 := ⟨m - 1, by omega⟩
    rw [List.length_cons] at h4 hm
    have a1 : qu T = nI q.1 := hR 0 q (by simp)
    have v0 : vp_in (nI T) 4 := vp_in_nI (by omega) (by omega)
    have c0 : (nI T).toNatClampNeg = T := nI_clamp (by omega)
    have vk : vp_in (nI K.length) 4 := vp_in_nI (by omega) (by omega)
    have ck : (nI K.length).toNatClampNeg = K.length := nI_clamp (by omega)
    have hq : q ∈ K ++ q :: R := by simp
    obtain ⟨q4, qh, qw⟩ := hO.1 q hq
    obtain ⟨w1, w2⟩ := hW.1 q hq
    have vq : vp_in (nI q.1) 4 := vp_in_nI q4 (by omega)
    have cq : (nI q.1).toNatClampNeg = q.1 := nI_clamp (by omega)
    have hlen : T + (q :: R).length = (T + 1) + R.length := by rw [List.length_cons]; omega
    refine br_f (nI_ge (by rw [List.length_cons]; omega) (by rw [List.length_cons]; omega)) ⟨v0, nm_r (e' := nI q.1) (by rw [c0, a1]) ⟨vq, vq, ?_⟩⟩
    rw [cq, w1, w2, hlen]
    refine tp_xgive (tp_kd qh) q4 qw hX (fun hn => br_t rfl ⟨vk, nm_r (by rw [ck]) (nm_r (nI_1 _) (nm_r (nI_1 _) ?_))⟩)
      (fun t L' hs tu' en' ow' ta' mk' wf' hX' => br_f (tp_n4 (tp_gv_t hX.1.2.2 hs)) ⟨vq, nm_e (nm_r (nI_1 _) ?_)⟩)
    · rw [tp_sv_n hn] at k
      have k2 := ih (K ++ [q]) L (T + 1) m tu en ow ta mk wf lg wk (upd qu K.length (nI q.1)) (by rw [List.length_append, List.length_singleton]; omega) (by omega) (by omega) hX (tp_QQ_add hK) (by simpa using hO) (by simpa using hW) (fun i x hx => by
        have := hR (i + 1) x (by rw [List.getElem?_cons_succ]; exact hx)
        rw [pk_un (by omega)]
        rwa [show T + (i + 1) = T + 1 + i by omega] at this) (by simpa using k)
      rw [List.length_append, List.length_singleton] at k2
      exact k2
    · rw [tp_sv_s hs] at k
      exact ih K L' (T + 1) m tu' en' ow' ta' mk' wf' (upd lg q.1 t) (upd wk q.1 0) qu (by omega) (by omega) (by omega) hX' hK (tp_QO_rm hO) (tp_K_rm hO.2 hW) (fun i x hx => by
        have := hR (i + 1) x (by rw [List.getElem?_cons_succ]; exact hx)
        rwa [show T + (i + 1) = T + 1 + i by omega] at this) k
theorem tp_xserve {post : SX → Prop} {Q : List tp_T} {L : List tp_E} (hX : tp_X L tu en ow ta mk wf) (hQ : tp_QQ Q qu) (hO : tp_QO Q) (hK : tp_K Q wk wt)
    (k : ∀ tu' en' ow' ta' mk' wf' wk' qu' : Nat → Int32, tp_X (tp_sv tr Q L lg).2.1 tu' en' ow' ta' mk' wf' → tp_QQ (tp_sv tr Q L lg).1 qu' → tp_K (tp_sv tr Q L lg).1 wk' wt →
      post (nI (tp_sv tr Q L lg).2.1.length, lv, nI (tp_sv tr Q L lg).1.length, tm, tu', en', ow', ta', mk', wf', tr, (tp_sv tr Q L lg).2.2, wk', wt, qu')) :
    wpX_serve post (nI L.length, lv, nI Q.length, tm, tu, en, ow, ta, mk, wf, tr, lg, wk, wt, qu) := by
  have h4 := tp_Q4 hO
  unfold wpX_serve
  dsimp only
  refine ⟨Q.length + 1, ?_⟩
  have k2 := tp_xserve4 (post := post) (lv := lv) (tm := tm) (tr := tr) (wt := wt) Q [] L 0 (Q.length + 1) tu en ow ta mk wf lg wk qu (by simp) (by omega) (by omega) hX (fun i x hx => by simp at hx) hO hK (fun i x hx => by
    rw [Nat.zero_add]
    exact hQ i x hx) k
  rw [Nat.zero_add] at k2
  exact k2
theorem tp_yidle {post : SY → Prop} {k : Nat} : ∀ (d s m : Nat), s + d = 4 → d < m → post (tm, n, nI k, tu, en, ow, ta, mk, tr, lg, wo, hw, wa) → wY_serve_4 post m (nI k) (nI s) tm n (nI k) tu en ow ta mk tr lg wo hw wa := by
  intro d
  induction d with
  | zero =>
    intro s m hs hm h
    obtain ⟨m, rfl⟩ : ∃ p, m = p + 1 := ⟨m - 1, by omega⟩
    obtain rfl : s = 4 := by omega
    exact br_t (Int32.le_refl _) h
  | succ d ih =>
    intro s m hs hm h
    obtain ⟨m, rfl⟩ : ∃ p, m = p + 1 := ⟨m - 1, by omega⟩
    exact br_f (nI_ge (b := 4) (by omega) (by decide)) (br_t (Int32.le_refl _) (nm_r (nI_1 _) (ih (s + 1) m (by omega) (by omega) h)))
theorem tp_yserve4 {post : SY → Prop} : ∀ (R K : List tp_T) (L : List tp_E) (s m : Nat) (tu en ow ta mk lg wo hw wa : Nat → Int32), s + R.length ≤ 4 → 4 < m + s →
    tp_Y L tu en ow ta mk → tp_QY (K ++ R) wo hw wa → tp_QO (K ++ R) →
    (∀ tu' en' ow' ta' mk' wo' hw' wa' : Nat → Int32, tp_Y (tp_sv tr R L lg).2.1 tu' en' ow' ta' mk' → tp_QY (K ++ (tp_sv tr R L lg).1) wo' hw' wa' →
      post (tm, nI (tp_sv tr R L lg).2.1.length, nI (K ++ (tp_sv tr R L lg).1).length, tu', en', ow', ta', mk', tr, (tp_sv tr R L lg).2.2, wo', hw', wa')) →
    wY_serve_4 post m (nI K.length) (nI s) tm (nI L.length) (nI (K ++ R).length) tu en ow ta mk tr lg wo hw wa := by
  intro R
  induction R with
  | nil =>
    intro K L s m tu en ow ta mk lg wo hw wa hs hm hY hQ hO k
    rw [List.length_nil] at hs
    rw [tp_sv, List.append_nil] at k
    rw [List.append_nil] at hQ ⊢
    exact tp_yidle (4 - s) s m (by omega) (by omega) (k _ _ _ _ _ _ _ _ hY hQ)
  | cons q R ih =>
    intro K L s m tu en ow ta mk lg wo hw wa hs hm hY hQ hO k
    rw [List.length_cons] at hs
    obtain ⟨m, rfl⟩ : ∃ p, m = p + 1 := ⟨m - 1, by omega⟩
    have h4 := tp_Q4 hO
    have hlen : (K ++ q :: R).length = (K.length + R.length) + 1 := by simp; omega
    have vk : vp_in (nI K.length) 4 := vp_in_nI (by omega) (by omega)
    have ck : (nI K.length).toNatClampNeg = K.length := nI_clamp (by omega)
    have hq : q ∈ K ++ q :: R := by simp
    obtain ⟨q4, qh, qw⟩ := hO.1 q hq
    obtain ⟨a1, a2, a3⟩ := tp_QY_at hQ
    have G : ∀ kd : Int32, kd = (if decide (q.2.1 = 1) = true then 1 else 0) → wY_serve_39 post (wY_serve_4 post m) (nI K.length) (nI s) kd (nI q.1) tm (nI L.length) (nI (K ++ q :: R).length) tu en ow ta mk tr lg wo hw wa := by
      intro kd hkd
      unfold wY_serve_39
      refine ⟨vk, ?_⟩
      rw [ck, a3]
      refine tp_ygive hkd q4 hY (fun hn => br_t rfl (nm_r (nI_1 _) (nm_r (nI_1 _) ?_))) (fun t L' hv tu' en' ow' ta' mk' hY' => br_f (by decide) ?_)
      · rw [tp_sv_n hn] at k
        have k2 := ih (K ++ [q]) L (s + 1) m tu en ow ta mk lg wo hw wa (by omega) (by omega) hY (by simpa using hQ) (by simpa using hO) (by simpa using k)
        rw [List.length_append, List.length_singleton, List.append_assoc] at k2
        exact k2
      · rw [tp_sv_s hv] at k
        refine tp_ystop h4 rfl hQ (fun wo' hw' wa' hQ' => nm_r (nI_1 _) ?_)
        exact ih K L' (s + 1) m tu' en' ow' ta' mk' (upd lg q.1 t) wo' hw' wa' (by omega) (by omega) hY' hQ' (tp_QO_rm hO) k
    refine br_f (nI_ge (b := 4) (by omega) (by decide)) (br_f (nI_ge (by omega) (by omega)) ⟨vk, vk, ?_⟩)
    rw [ck, a1, a2]
    obtain z | z : q.2.1 = 0 ∨ q.2.1 = 1 := by omega
    · refine br_f ?_ (G 0 (by rw [z]; rfl))
      rw [z]
      decide
    · refine br_t ?_ (G 1 (by rw [z]; rfl))
      rw [z]
      rfl
theorem tp_yserve {post : SY → Prop} {Q : List tp_T} {L : List tp_E} (hY : tp_Y L tu en ow ta mk) (hQ : tp_QY Q wo hw wa) (hO : tp_QO Q)
    (k : ∀ tu' en' ow' ta' mk' wo' hw' wa' : Nat → Int32, tp_Y (tp_sv tr Q L lg).2.1 tu' en' ow' ta' mk' → tp_QY (tp_sv tr Q L lg).1 wo' hw' wa' →
      post (tm, nI (tp_sv tr Q L lg).2.1.length, nI (tp_sv tr Q L lg).1.length, tu', en', ow', ta', mk', tr, (tp_sv tr Q L lg).2.2, wo', hw', wa')) :
    wpY_serve post (tm, nI L.length, nI Q.length, tu, en, ow, ta, mk, tr, lg, wo, hw, wa) := by
  have h4 := tp_Q4 hO
  unfold wpY_serve
  dsimp only
  exact ⟨5, tp_yserve4 (post := post) (tm := tm) (tr := tr) Q [] L 0 5 tu en ow ta mk lg wo hw wa (by omega) (by omega) hY hQ hO k⟩
theorem tp_sv_QO {Q : List tp_T} {L : List tp_E} (h : tp_QO Q) : tp_QO (tp_sv tr Q L lg).1 :=
  ⟨fun q hq => h.1 q ((tp_sv_sub Q L lg).subset hq), h.2.sublist (tp_sv_sub Q L lg)⟩
end
