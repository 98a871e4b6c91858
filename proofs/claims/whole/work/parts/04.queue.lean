section
variable {n lv ql tm wn : Int32} {tu en ow ta mk wf tr lg wk wt qu wo hw wa : Nat → Int32}
/-! the queue as a list of (client, how, template) -/
abbrev tp_T : Type := Nat × Nat × Nat
def tp_QY (Q : List tp_T) (wo hw wa : Nat → Int32) : Prop := ∀ (i : Nat) (q : tp_T), Q[i]? = some q → wo i = nI q.1 ∧ hw i = nI q.2.1 ∧ wa i = nI q.2.2
def tp_QQ (Q : List tp_T) (qu : Nat → Int32) : Prop := ∀ (i : Nat) (q : tp_T), Q[i]? = some q → qu i = nI q.1
def tp_K (Q : List tp_T) (wk wt : Nat → Int32) : Prop := (∀ q, q ∈ Q → wk q.1 = nI (q.2.1 + 1) ∧ wt q.1 = nI q.2.2) ∧ (∀ c, c < 4 → (∀ q, q ∈ Q → q.1 ≠ c) → wk c = 0)
def tp_QO (Q : List tp_T) : Prop := (∀ q, q ∈ Q → q.1 < 4 ∧ q.2.1 < 2 ∧ q.2.2 ≤ 288) ∧ Q.Pairwise (fun a b => a.1 ≠ b.1)
theorem tp_pair {K R : List tp_T} {q : tp_T} (h : (K ++ q :: R).Pairwise (fun a b => a.1 ≠ b.1)) : (K ++ R).Pairwise (fun a b => a.1 ≠ b.1) ∧ ∀ x, x ∈ K ++ R → x.1 ≠ q.1 := by
  rw [List.pairwise_append, List.pairwise_cons] at h
  obtain ⟨h1, ⟨h2, h3⟩, h4⟩ := h
  refine ⟨List.pairwise_append.mpr ⟨h1, h3, fun a ha b hb => h4 a ha b (List.mem_cons_of_mem _ hb)⟩, ?_⟩
  intro x hx
  rw [List.mem_append] at hx
  rcases hx with hx | hx
  · exact h4 x hx q (by simp)
  · exact fun z => h2 x hx z.symm
theorem tp_memR {α : Type} {K R : List α} {q x : α} (hx : x ∈ K ++ R) : x ∈ K ++ q :: R := by
  rw [List.mem_append] at hx ⊢
  rcases hx with hx | hx
  · exact Or.inl hx
  · exact Or.inr (List.mem_cons_of_mem _ hx)
theorem tp_QO_rm {K R : List tp_T} {q : tp_T} (h : tp_QO (K ++ q :: R)) : tp_QO (K ++ R) := ⟨fun x hx => h.1 x (tp_memR hx), (tp_pair h.2).1⟩
theorem tp_pig : ∀ (N : Nat) (Q : List tp_T), Q.Pairwise (fun a b => a.1 ≠ b.1) → (∀ q, q ∈ Q → q.1 < N) → Q.length ≤ N := by
  intro N
  induction N with
  | zero =>
    intro Q _ h
    cases Q with
    | nil => simp
    | cons q Q => exact absurd (h q (by simp)) (by omega)
  | succ N ih =>
    intro Q hp h
    by_cases hq : ∃ q, q ∈ Q ∧ q.1 = N
    · obtain ⟨q, hm, hN⟩ := hq
      obtain ⟨K, R, rfl⟩ := List.append_of_mem hm
      obtain ⟨h1, h2⟩ := tp_pair hp
      have := ih (K ++ R) h1 (fun x hx => by
        have a := h x (tp_memR hx)
        have b := h2 x hx
        omega)
      simp only [List.length_append, List.length_cons] at this ⊢
      omega
    · have := ih Q hp (fun x hx => by
        have a := h x hx
        have b : x.1 ≠ N := fun z => hq ⟨x, hx, z⟩
        omega)
      omega
theorem tp_Q4 {Q : List tp_T} (h : tp_QO Q) : Q.length ≤ 4 := tp_pig 4 Q h.2 (fun q hq => (h.1 q hq).1)
theorem tp_Q3 {Q : List tp_T} (h : tp_QO Q) {c : Nat} (hc : c < 4) (hn : ∀ q, q ∈ Q → q.1 ≠ c) : Q.length < 4 := by
  have := tp_pig 4 ((c, 0, 0) :: Q) (List.pairwise_cons.mpr ⟨fun x hx z => hn x hx z.symm, h.2⟩) (fun q hq => by
    rw [List.mem_cons] at hq
    rcases hq with hq | hq
    · rw [hq]; exact hc
    · exact (h.1 q hq).1)
  rw [List.length_cons] at this
  omega
theorem tp_QY_at {K R : List tp_T} {q : tp_T} (h : tp_QY (K ++ q :: R) wo hw wa) : wo K.length = nI q.1 ∧ hw K.length = nI q.2.1 ∧ wa K.length = nI q.2.2 := h K.length q (by simp)
theorem tp_QY_rm {K R : List tp_T} {q : tp_T} (h : tp_QY (K ++ q :: R) wo hw wa) (m : Nat) (hm : m = K.length + R.length) :
    tp_QY (K ++ R) (tp_sh wo K.length m) (tp_sh hw K.length m) (tp_sh wa K.length m) := by
  intro i x hx
  by_cases hi : i < K.length
  · have h1 : (K ++ q :: R)[i]? = some x := by
      rw [List.getElem?_append_left hi] at hx ⊢
      exact hx
    have h2 := h i x h1
    simp only [tp_sh, if_neg (show ¬ (K.length ≤ i ∧ i < m) by omega)]
    exact h2
  · rw [List.getElem?_append_right (by omega)] at hx
    have hl : i - K.length < R.length := (List.getElem?_eq_some_iff.mp hx).1
    have h1 : (K ++ q :: R)[i + 1]? = some x := by
      rw [List.getElem?_append_right (by omega), show i + 1 - K.length = (i - K.length) + 1 by omega, List.getElem?_cons_succ]
      exact hx
    have h2 := h (i + 1) x h1
    simp only [tp_sh, if_pos (show K.length ≤ i ∧ i < m by omega)]
    exact h2
theorem tp_QY_add {K : List tp_T} {c h w : Nat} (hq : tp_QY K wo hw wa) : tp_QY (K ++ [(c, h, w)]) (upd wo K.length (nI c)) (upd hw K.length (nI h)) (upd wa K.length (nI w)) := by
  intro i x hx
  by_cases hi : i = K.length
  · subst hi
    have : (c, h, w) = x := by simpa using hx
    subst this
    exact ⟨pk_us, pk_us, pk_us⟩
  · have hl : i < (K ++ [(c, h, w)]).length := (List.getElem?_eq_some_iff.mp hx).1
    rw [List.length_append, List.length_singleton] at hl
    rw [List.getElem?_append_left (by omega)] at hx
    rw [pk_un hi, pk_un hi, pk_un hi]
    exact hq i x hx
theorem tp_QQ_add {K : List tp_T} {q : tp_T} (h : tp_QQ K qu) : tp_QQ (K ++ [q]) (upd qu K.length (nI q.1)) := by
  intro i x hx
  by_cases hi : i = K.length
  · subst hi
    have : q = x := by simpa using hx
    subst this
    exact pk_us
  · have hl : i < (K ++ [q]).length := (List.getElem?_eq_some_iff.mp hx).1
    rw [List.length_append, List.length_singleton] at hl
    rw [List.getElem?_append_left (by omega)] at hx
    rw [pk_un hi]
    exact h i x hx
theorem tp_K_rm {K R : List tp_T} {q : tp_T} (hp : (K ++ q :: R).Pairwise (fun a b => a.1 ≠ b.1)) (h : tp_K (K ++ q :: R) wk wt) : tp_K (K ++ R) (upd wk q.1 0) wt := by
  obtain ⟨_, h2⟩ := tp_pair hp
  refine ⟨fun x hx => ?_, fun c hc hn => ?_⟩
  · rw [pk_un (h2 x hx)]
    exact h.1 x (tp_memR hx)
  · by_cases z : c = q.1
    · rw [z, pk_us]
    · rw [pk_un z]
      refine h.2 c hc (fun x hx => ?_)
      rw [List.mem_append, List.mem_cons] at hx
      rcases hx with hx | hx | hx
      · exact hn x (by rw [List.mem_append]; exact Or.inl hx)
      · rw [hx]; exact fun y => z y.symm
      · exact hn x (by rw [List.mem_append]; exact Or.inr hx)
theorem tp_K_add {K : List tp_T} {c h w : Nat} (hn : ∀ q, q ∈ K → q.1 ≠ c) (hk : tp_K K wk wt) : tp_K (K ++ [(c, h, w)]) (upd wk c (nI (h + 1))) (upd wt c (nI w)) := by
  refine ⟨fun x hx => ?_, fun d hd hx => ?_⟩
  · rw [List.mem_append, List.mem_singleton] at hx
    rcases hx with hx | hx
    · rw [pk_un (hn x hx), pk_un (hn x hx)]
      exact hk.1 x hx
    · rw [hx]
      exact ⟨pk_us, pk_us⟩
  · have z : d ≠ c := fun y => hx (c, h, w) (by simp) y.symm
    rw [pk_un z]
    exact hk.2 d hd (fun x hm => hx x (by rw [List.mem_append]; exact Or.inl hm))
theorem tp_QO_add {K : List tp_T} {c h w : Nat} (hk : tp_QO K) (hc : c < 4) (hh : h < 2) (hw : w ≤ 288) (hn : ∀ q, q ∈ K → q.1 ≠ c) : tp_QO (K ++ [(c, h, w)]) := by
  refine ⟨fun x hx => ?_, List.pairwise_append.mpr ⟨hk.2, by simp, fun a ha b hb => ?_⟩⟩
  · rw [List.mem_append, List.mem_singleton] at hx
    rcases hx with hx | hx
    · exact hk.1 x hx
    · rw [hx]
      exact ⟨hc, hh, hw⟩
  · rw [List.mem_singleton] at hb
    rw [hb]
    exact hn a ha
theorem tp_wk {Q : List tp_T} (h : tp_K Q wk wt) (ho : tp_QO Q) {c : Nat} (hc : c < 4) : wk c = 0 ↔ ∀ q, q ∈ Q → q.1 ≠ c := by
  refine ⟨fun hz q hq hqc => ?_, h.2 c hc⟩
  have h1 := (h.1 q hq).1
  have h2 := (ho.1 q hq).2.1
  rw [hqc, hz, ← nI_0, nI_eq (by omega) (by omega)] at h1
  omega
/-! the search through the queue -/
theorem tp_yq2 {post : Int32 → Prop} {Q : List tp_T} {c : Int32} (h : tp_QY Q wo hw wa) (h4 : Q.length ≤ 4)
    (h0 : (∀ q, q ∈ Q → nI q.1 ≠ c) → post (-1)) (h1 : ∀ K q R, Q = K ++ q :: R → (∀ x, x ∈ K → nI x.1 ≠ c) → nI q.1 = c → post (nI K.length)) :
    ∀ (S K : List tp_T) (m : Nat), Q = K ++ S → (∀ x, x ∈ K → nI x.1 ≠ c) → S.length < m → wY_queued_2 post c tm n (nI Q.length) tu en ow ta mk tr lg wo hw wa m (nI K.length) := by
  intro S
  induction S with
  | nil =>
    intro K m hQ hK hm
    obtain ⟨m, rfl⟩ : ∃ p, m = p + 1 := ⟨m - 1, by omega⟩
    rw [List.append_nil] at hQ
    subst hQ
    exact br_t (Int32.le_refl _) (h0 hK)
  | cons q S ih =>
    intro K m hQ hK hm
    obtain ⟨m, rfl⟩ : ∃ p, m = p + 1 := ⟨m - 1, by omega⟩
    have hlen : Q.length = K.length + (S.length + 1) := by rw [hQ]; simp
    have ha := h
    rw [hQ] at ha
    obtain ⟨a1, _⟩ := tp_QY_at ha
    have v0 : vp_in (nI K.length) 4 := vp_in_nI (by omega) (by omega)
    have c0 : (nI K.length).toNatClampNeg = K.length := nI_clamp (by omega)
    refine br_f (nI_ge (by omega) (by omega)) ⟨v0, ?_⟩
    rw [c0, a1]
    refine br_c (fun z => h1 K q S hQ hK z) (fun z => nm_r (nI_1 _) ?_)
    have := ih (K ++ [q]) m (by simp [hQ]) (by
      intro x hx
      rw [List.mem_append, List.mem_singleton] at hx
      rcases hx with hx | hx
      · exact hK x hx
      · rw [hx]; exact z) (by rw [List.length_cons] at hm; omega)
    rwa [List.length_append, List.length_singleton] at this
theorem tp_yqueued {post : Int32 → Prop} {Q : List tp_T} {c : Int32} (h : tp_QY Q wo hw wa) (h4 : Q.length ≤ 4)
    (h0 : (∀ q, q ∈ Q → nI q.1 ≠ c) → post (-1)) (h1 : ∀ K q R, Q = K ++ q :: R → (∀ x, x ∈ K → nI x.1 ≠ c) → nI q.1 = c → post (nI K.length)) :
    wpY_queued post (tm, n, nI Q.length, tu, en, ow, ta, mk, tr, lg, wo, hw, wa) c := by
  unfold wpY_queued
  dsimp only
  exact ⟨Q.length + 1, tp_yq2 h h4 h0 h1 Q [] (Q.length + 1) rfl (by simp) (by omega)⟩
theorem tp_xp11 {post : Int32 → Prop} {Q : List tp_T} {c : Int32} (h : tp_QQ Q qu) (h4 : Q.length ≤ 4)
    (h0 : (∀ q, q ∈ Q → nI q.1 ≠ c) → post (-4)) (h1 : ∀ K q R, Q = K ++ q :: R → (∀ x, x ∈ K → nI x.1 ≠ c) → nI q.1 = c → post (nI K.length)) :
    ∀ (S K : List tp_T) (m : Nat), Q = K ++ S → (∀ x, x ∈ K → nI x.1 ≠ c) → S.length < m → wX_place_11 post c n lv (nI Q.length) tm tu en ow ta mk wf tr lg wk wt qu m (nI K.length) := by
  intro S
  induction S with
  | nil =>
    intro K m hQ hK hm
    obtain ⟨m, rfl⟩ : ∃ p, m = p + 1 := ⟨m - 1, by omega⟩
    rw [List.append_nil] at hQ
    subst hQ
    exact br_t (Int32.le_refl _) (h0 hK)
  | cons q S ih =>
    intro K m hQ hK hm
    obtain ⟨m, rfl⟩ : ∃ p, m = p + 1 := ⟨m - 1, by omega⟩
    have hlen : Q.length = K.length + (S.length + 1) := by rw [hQ]; simp
    have a1 := h K.length q (by rw [hQ]; simp)
    have v0 : vp_in (nI K.length) 4 := vp_in_nI (by omega) (by omega)
    have c0 : (nI K.length).toNatClampNeg = K.length := nI_clamp (by omega)
    refine br_f (nI_ge (by omega) (by omega)) ⟨v0, ?_⟩
    rw [c0, a1]
    refine br_c (fun z => h1 K q S hQ hK z) (fun z => nm_r (nI_1 _) ?_)
    have := ih (K ++ [q]) m (by simp [hQ]) (by
      intro x hx
      rw [List.mem_append, List.mem_singleton] at hx
      rcases hx with hx | hx
      · exact hK x hx
      · rw [hx]; exact z) (by rw [List.length_cons] at hm; omega)
    rwa [List.length_append, List.length_singleton] at this
theorem tp_one {K K' R R' : List tp_T} {q q' : tp_T} {c : Int32} (e : K ++ q :: R = K' ++ q' :: R') (h : ∀ x, x ∈ K → nI x.1 ≠ c) (hq : nI q.1 = c)
    (h' : ∀ x, x ∈ K' → nI x.1 ≠ c) (hq' : nI q'.1 = c) : K.length = K'.length := by
  have a : ∀ {K K' R R' : List tp_T} {q q' : tp_T}, K ++ q :: R = K' ++ q' :: R' → nI q.1 = c → (∀ x, x ∈ K' → nI x.1 ≠ c) → ¬ K.length < K'.length := by
    intro K K' R R' q q' e hq h' hl
    have e1 : (K ++ q :: R)[K.length]? = some q := by simp
    rw [e, List.getElem?_append_left hl] at e1
    exact h' q (List.mem_of_getElem? e1) hq
  have a1 := a e hq h'
  have a2 := a e.symm hq' h
  omega
/-! leaving the queue -/
theorem tp_ystop2 {post : SY → Prop} (m : Nat) (hm : m < 4) (hn : wn = nI (m + 1)) : ∀ (d i p : Nat) (wo hw wa : Nat → Int32), i + d = m → d < p →
    post (tm, n, nI m, tu, en, ow, ta, mk, tr, lg, tp_sh wo i m, tp_sh hw i m, tp_sh wa i m) →
    wY_stopWaiting_2 post tm n wn p (nI i) tu en ow ta mk tr lg wo hw wa := by
  have hp1 : wn - 1 = nI m := by rw [hn, nI_pred]
  intro d
  induction d with
  | zero =>
    intro i p wo hw wa hi hp h
    obtain ⟨p, rfl⟩ : ∃ q, p = q + 1 := ⟨p - 1, by omega⟩
    obtain rfl : i = m := by omega
    simp only [tp_sh_e] at h
    exact br_t (by rw [hp1]; exact Int32.le_refl _) (nm_r hp1 h)
  | succ d ih =>
    intro i p wo hw wa hi hp h
    obtain ⟨p, rfl⟩ : ∃ q, p = q + 1 := ⟨p - 1, by omega⟩
    have v0 : vp_in (nI i) 4 := vp_in_nI (by omega) (by omega)
    have v1 : vp_in (nI i + 1) 4 := by rw [nI_1]; exact vp_in_nI (by omega) (by omega)
    have c0 : (nI i).toNatClampNeg = i := nI_clamp (by omega)
    have c1 : (nI i + 1).toNatClampNeg = i + 1 := by rw [nI_1]; exact nI_clamp (by omega)
    have im : i < m := by omega
    rw [← tp_sh_s wo im, ← tp_sh_s hw im, ← tp_sh_s wa im] at h
    refine br_f (by rw [hp1]; exact nI_ge im (by omega)) ⟨v1, v0, nm_r (by rw [c0, c1]) ⟨v1, v0, nm_r (by rw [c0, c1]) ⟨v1, v0, nm_r (by rw [c0, c1]) (nm_r (nI_1 _) ?_)⟩⟩⟩
    exact ih (i + 1) p _ _ _ (by omega) (by omega) h
theorem tp_ystop {post : SY → Prop} {K R : List tp_T} {q : tp_T} (h4 : (K ++ q :: R).length ≤ 4) (hn : wn = nI (K ++ q :: R).length) (h : tp_QY (K ++ q :: R) wo hw wa)
    (k : ∀ wo' hw' wa' : Nat → Int32, tp_QY (K ++ R) wo' hw' wa' → post (tm, n, nI (K ++ R).length, tu, en, ow, ta, mk, tr, lg, wo', hw', wa')) :
    wpY_stopWaiting post (tm, n, wn, tu, en, ow, ta, mk, tr, lg, wo, hw, wa) (nI K.length) := by
  have hlen : (K ++ q :: R).length = (K.length + R.length) + 1 := by simp; omega
  have hl' : (K ++ R).length = K.length + R.length := by simp
  unfold wpY_stopWaiting
  dsimp only
  refine ⟨R.length + 1, ?_⟩
  refine tp_ystop2 (K.length + R.length) (by omega) (by rw [hn, hlen]) R.length K.length _ _ _ _ rfl (by omega) ?_
  rw [← hl']
  exact k _ _ _ (tp_QY_rm h _ hl')
theorem tp_xleave4 {post : SX → Prop} {c : Nat} (hc : c < 4) : ∀ (R K : List tp_T) (T m : Nat) (qu : Nat → Int32), K.length ≤ T → T + R.length ≤ 4 → R.length < m → tp_QQ K qu → (∀ q, q ∈ R → q.1 < 4) →
    (∀ (i : Nat) (q : tp_T), R[i]? = some q → qu (T + i) = nI q.1) →
    (∀ qu' : Nat → Int32, tp_QQ (K ++ R.filter (fun q => decide (q.1 ≠ c))) qu' → post (n, lv, nI (K ++ R.filter (fun q => decide (q.1 ≠ c))).length, tm, tu, en, ow, ta, mk, wf, tr, lg, wk, wt, qu')) →
    wX_leaveQueue_4 post (nI c) n lv (nI (T + R.length)) tm m (nI K.length) (nI T) tu en ow ta mk wf tr lg wk wt qu := by
  intro R
  induction R with
  | nil =>
    intro K T m qu hT h4 hm hK _ hR k
    obtain ⟨m, rfl⟩ : ∃ p, m = p + 1 := ⟨m - 1, by omega⟩
    rw [List.filter_nil, List.append_nil] at k
    exact br_t (Int32.le_refl _) (k qu hK)
  | cons q R ih =>
    intro K T m qu hT h4 hm hK h44 hR k
    obtain ⟨m, rfl⟩ : ∃ p, m = p + 1 := ⟨m - 1, by omega⟩
    rw [List.length_cons] at h4 hm
    have a1 : qu T = nI q.1 := hR 0 q (by simp)
    have v0 : vp_in (nI T) 4 := vp_in_nI (by omega) (by omega)
    have c0 : (nI T).toNatClampNeg = T := nI_clamp (by omega)
    have vk : vp_in (nI K.length) 4 := vp_in_nI (by omega) (by omega)
    have ck : (nI K.length).toNatClampNeg = K.length := nI_clamp (by omega)
    have q4 : q.1 < 4 := h44 q (by simp)
    have hlen : T + (q :: R).length = (T + 1) + R.length := by rw [List.length_cons]; omega
    refine br_f (nI_ge (by rw [List.length_cons]; omega) (by rw [List.length_cons]; omega)) ⟨v0, ?_⟩
    rw [c0, a1]
    refine br_c (fun z => nm_r (nI_1 _) ?_) (fun z => ⟨v0, vk, nm_r (by rw [ck]) (nm_r (nI_1 _) (nm_r (nI_1 _) ?_))⟩)
    · have z' : q.1 = c := (nI_eq (by omega) (by omega)).mp z
      rw [List.filter_cons_of_neg (by simp [z'])] at k
      rw [hlen]
      exact ih K (T + 1) m qu (by omega) (by omega) (by omega) hK (fun x hx => h44 x (List.mem_cons_of_mem _ hx)) (fun i x hx => by
        have := hR (i + 1) x (by rw [List.getElem?_cons_succ]; exact hx)
        rwa [show T + (i + 1) = T + 1 + i by omega] at this) k
    · have z' : q.1 ≠ c := fun y => z (by rw [y])
      rw [List.filter_cons_of_pos (by simp [z'])] at k
      rw [hlen]
      have k2 := ih (K ++ [q]) (T + 1) m (upd qu K.length (nI q.1)) (by rw [List.length_append, List.length_singleton]; omega) (by omega) (by omega) (tp_QQ_add hK) (fun x hx => h44 x (List.mem_cons_of_mem _ hx)) (fun i x hx => by
        have := hR (i + 1) x (by rw [List.getElem?_cons_succ]; exact hx)
        rw [pk_un (by omega)]
        rwa [show T + (i + 1) = T + 1 + i by omega] at this) (by simpa using k)
      rw [List.length_append, List.length_singleton] at k2
      exact k2
theorem tp_flt {K R : List tp_T} {q : tp_T} (hp : (K ++ q :: R).Pairwise (fun a b => a.1 ≠ b.1)) : (K ++ q :: R).filter (fun x => decide (x.1 ≠ q.1)) = K ++ R := by
  obtain ⟨_, h2⟩ := tp_pair hp
  rw [List.filter_append, List.filter_cons_of_neg (by simp), ← List.filter_append, List.filter_eq_self]
  intro x hx
  simp [h2 x hx]
theorem tp_xleave {post : SX → Prop} {K R : List tp_T} {q : tp_T} (ho : tp_QO (K ++ q :: R)) (h : tp_QQ (K ++ q :: R) qu) (hn : ql = nI (K ++ q :: R).length)
    (k : ∀ qu' : Nat → Int32, tp_QQ (K ++ R) qu' → post (n, lv, nI (K ++ R).length, tm, tu, en, ow, ta, mk, wf, tr, lg, wk, wt, qu')) :
    wpX_leaveQueue post (n, lv, ql, tm, tu, en, ow, ta, mk, wf, tr, lg, wk, wt, qu) (nI q.1) := by
  have h4 := tp_Q4 ho
  have q4 := (ho.1 q (by simp)).1
  unfold wpX_leaveQueue
  dsimp only
  refine ⟨(K ++ q :: R).length + 1, ?_⟩
  have k2 := tp_xleave4 (post := post) (c := q.1) q4 (n := n) (lv := lv) (tm := tm) (tu := tu) (en := en) (ow := ow) (ta := ta) (mk := mk) (wf := wf) (tr := tr) (lg := lg) (wk := wk) (wt := wt) (K ++ q :: R) [] 0 ((K ++ q :: R).length + 1) qu (by simp) (by omega) (by omega) (fun i x hx => by simp at hx) (fun x hx => (ho.1 x hx).1) (fun i x hx => by
    rw [Nat.zero_add]
    exact h i x hx) (by
      rw [tp_flt ho.2]
      exact k)
  rw [Nat.zero_add, ← hn] at k2
  exact k2
end
