section
variable {n lv ql tm wn : Int32} {tu en ow ta mk wf tr lg wk wt qu wo hw wa : Nat → Int32}
def tp_cn (c w : Int32) : List tp_E → Int32 → Int32
  | [], a => a
  | e :: B, a => if (tp_ft e.1 w && tp_se c e) = true then tp_cn c w B (a + 1) else tp_cn c w B a
def tp_sn (c w k : Int32) : List tp_E → Int32 → Int32
  | [], _ => -4
  | e :: B, a => if (tp_ft e.1 w && tp_se c e) = true then (if a = k then e.1 else tp_sn c w k B (a + 1)) else tp_sn c w k B a
def tp_nx (tm : Int32) : List tp_E → Int32 → Int32
  | [], a => a
  | e :: B, a => if e.2.1 = -1 then tp_nx tm B a else if a = -4 then tp_nx tm B (e.2.1 - tm) else if a ≤ e.2.1 - tm then tp_nx tm B a else tp_nx tm B (e.2.1 - tm)
theorem tp_cn_0 {c w : Int32} : ∀ (L : List tp_E) (a : Int32), (∀ e, e ∈ L → tp_ft e.1 w = false) → tp_cn c w L a = a := by
  intro L
  induction L with
  | nil => intro a _; rfl
  | cons e B ih =>
    intro a h
    rw [tp_cn, if_neg (by rw [h e (by simp)]; simp)]
    exact ih a (fun x hx => h x (List.mem_cons_of_mem _ hx))
theorem tp_sn_0 {c w k : Int32} : ∀ (L : List tp_E) (a : Int32), (∀ e, e ∈ L → tp_ft e.1 w = false) → tp_sn c w k L a = -4 := by
  intro L
  induction L with
  | nil => intro a _; rfl
  | cons e B ih =>
    intro a h
    rw [tp_sn, if_neg (by rw [h e (by simp)]; simp)]
    exact ih a (fun x hx => h x (List.mem_cons_of_mem _ hx))
theorem tp_xcount28 {post : Int32 → Prop} {c w : Int32} {L : List tp_E} (h : tp_Y L tu en ow ta mk) :
    ∀ (R A : List tp_E) (m : Nat) (a : Int32), L = A ++ R → R.length < m → post (tp_cn c w R a) → wX_count_28 post c w (nI L.length) n lv ql tm tu en ow ta mk wf tr lg wk wt qu m a (nI A.length) := by
  intro R
  induction R with
  | nil =>
    intro A m a hL hm k
    obtain ⟨m, rfl⟩ : ∃ p, m = p + 1 := ⟨m - 1, by omega⟩
    rw [List.append_nil] at hL
    subst hL
    exact br_t (Int32.le_refl _) k
  | cons e R ih =>
    intro A m a hL hm k
    obtain ⟨m, rfl⟩ : ∃ p, m = p + 1 := ⟨m - 1, by omega⟩
    rw [List.length_cons] at hm
    have hlen : L.length = A.length + (R.length + 1) := by rw [hL]; simp
    have h20 := h.1
    have ha := h.2.1
    rw [hL] at ha
    obtain ⟨a1, a2, a3, a4, a5⟩ := tp_A_at ha
    have hi : A.length < 20 := by omega
    have next : ∀ b, post (tp_cn c w R b) → ∀ y, y = nI A.length + 1 → wX_count_28 post c w (nI L.length) n lv ql tm tu en ow ta mk wf tr lg wk wt qu m b y := by
      intro b kb
      refine nm_r (nI_1 _) ?_
      have := ih (A ++ [e]) m b (by simp [hL]) (by omega) kb
      rwa [List.length_append, List.length_singleton] at this
    have k0 : (tp_ft e.1 w && tp_se c e) = false → post (tp_cn c w R a) := fun z => by
      rw [tp_cn, if_neg (by rw [z]; decide)] at k
      exact k
    refine br_f (nI_ge (by omega) (by omega)) ?_
    refine tp_xfits (t := e.1) hi a1 (fun f1 => br_f (by decide) ?_) (fun f0 => br_t rfl (next a (k0 (by simp [f0]))))
    refine tp_xseen (e := e) hi a3 a4 (fun s1 => br_f (by decide) ?_) (fun s0 => br_t rfl (next a (k0 (by simp [s0]))))
    rw [tp_cn, if_pos (by rw [f1, s1]; rfl)] at k
    exact nm_e (next _ k)
theorem tp_ycount27 {post : Int32 → Prop} {c w : Int32} {L : List tp_E} (h : tp_Y L tu en ow ta mk) :
    ∀ (R A : List tp_E) (m : Nat) (a : Int32), L = A ++ R → R.length < m → post (tp_cn c w R a) → wY_count_27 post c w tm (nI L.length) wn tu en ow ta mk tr lg wo hw wa m a (nI A.length) := by
  intro R
  induction R with
  | nil =>
    intro A m a hL hm k
    obtain ⟨m, rfl⟩ : ∃ p, m = p + 1 := ⟨m - 1, by omega⟩
    rw [List.append_nil] at hL
    subst hL
    exact br_t (Int32.le_refl _) k
  | cons e R ih =>
    intro A m a hL hm k
    obtain ⟨m, rfl⟩ : ∃ p, m = p + 1 := ⟨m - 1, by omega⟩
    rw [List.length_cons] at hm
    have hlen : L.length = A.length + (R.length + 1) := by rw [hL]; simp
    have h20 := h.1
    have ha := h.2.1
    have hok := h.2.2
    rw [hL] at ha hok
    obtain ⟨a1, a2, a3, a4, a5⟩ := tp_A_at ha
    have hi : A.length < 20 := by omega
    have v0 : vp_in (nI A.length) 20 := vp_in_nI (by omega) (by omega)
    have c0 : (nI A.length).toNatClampNeg = A.length := nI_clamp (by omega)
    have next : ∀ b, post (tp_cn c w R b) → ∀ y, y = nI A.length + 1 → wY_count_27 post c w tm (nI L.length) wn tu en ow ta mk tr lg wo hw wa m b y := by
      intro b kb
      refine nm_r (nI_1 _) ?_
      have := ih (A ++ [e]) m b (by simp [hL]) (by omega) kb
      rwa [List.length_append, List.length_singleton] at this
    have k0 : (tp_ft e.1 w && tp_se c e) = false → post (tp_cn c w R a) := fun z => by
      rw [tp_cn, if_neg (by rw [z]; decide)] at k
      exact k
    refine br_f (nI_ge (by omega) (by omega)) ?_
    refine tp_yseen (e := e) hi (tp_okL hok) a3 a4 (fun s1 => br_f (by decide) ⟨v0, ?_⟩) (fun s0 => br_t rfl (next a (k0 (by simp [s0]))))
    rw [c0, a1]
    refine tp_yfits (fun f1 => br_f (by decide) ?_) (fun f0 => br_t rfl (next a (k0 (by simp [f0]))))
    rw [tp_cn, if_pos (by rw [f1, s1]; rfl)] at k
    exact nm_e (next _ k)
theorem tp_xseen29 {post : Int32 → Prop} {c w kk : Int32} {L : List tp_E} (h : tp_Y L tu en ow ta mk) :
    ∀ (R A : List tp_E) (m : Nat) (a : Int32), L = A ++ R → R.length < m → post (tp_sn c w kk R a) → wX_seen_29 post c w kk (nI L.length) n lv ql tm tu en ow ta mk wf tr lg wk wt qu m a (nI A.length) := by
  intro R
  induction R with
  | nil =>
    intro A m a hL hm k
    obtain ⟨m, rfl⟩ : ∃ p, m = p + 1 := ⟨m - 1, by omega⟩
    rw [List.append_nil] at hL
    subst hL
    exact br_t (Int32.le_refl _) k
  | cons e R ih =>
    intro A m a hL hm k
    obtain ⟨m, rfl⟩ : ∃ p, m = p + 1 := ⟨m - 1, by omega⟩
    rw [List.length_cons] at hm
    have hlen : L.length = A.length + (R.length + 1) := by rw [hL]; simp
    have h20 := h.1
    have ha := h.2.1
    rw [hL] at ha
    obtain ⟨a1, a2, a3, a4, a5⟩ := tp_A_at ha
    have hi : A.length < 20 := by omega
    have v0 : vp_in (nI A.length) 20 := vp_in_nI (by omega) (by omega)
    have c0 : (nI A.length).toNatClampNeg = A.length := nI_clamp (by omega)
    have next : ∀ b, post (tp_sn c w kk R b) → ∀ y, y = nI A.length + 1 → wX_seen_29 post c w kk (nI L.length) n lv ql tm tu en ow ta mk wf tr lg wk wt qu m b y := by
      intro b kb
      refine nm_r (nI_1 _) ?_
      have := ih (A ++ [e]) m b (by simp [hL]) (by omega) kb
      rwa [List.length_append, List.length_singleton] at this
    have k0 : (tp_ft e.1 w && tp_se c e) = false → post (tp_sn c w kk R a) := fun z => by
      rw [tp_sn, if_neg (by rw [z]; decide)] at k
      exact k
    refine br_f (nI_ge (by omega) (by omega)) ?_
    refine tp_xfits (t := e.1) hi a1 (fun f1 => br_f (by decide) ?_) (fun f0 => br_t rfl (next a (k0 (by simp [f0]))))
    refine tp_xseen (e := e) hi a3 a4 (fun s1 => br_f (by decide) ?_) (fun s0 => br_t rfl (next a (k0 (by simp [s0]))))
    rw [tp_sn, if_pos (by rw [f1, s1]; rfl)] at k
    refine br_c (fun z => ⟨v0, ?_⟩) (fun z => nm_e (next _ ?_))
    · rw [if_pos z] at k
      rw [c0, a1]
      exact k
    · rw [if_neg z] at k
      exact k
theorem tp_yseen28 {post : Int32 → Prop} {c w kk : Int32} {L : List tp_E} (h : tp_Y L tu en ow ta mk) :
    ∀ (R A : List tp_E) (m : Nat) (a : Int32), L = A ++ R → R.length < m → post (tp_sn c w kk R a) → wY_seen_28 post c w kk tm (nI L.length) wn tu en ow ta mk tr lg wo hw wa m a (nI A.length) := by
  intro R
  induction R with
  | nil =>
    intro A m a hL hm k
    obtain ⟨m, rfl⟩ : ∃ p, m = p + 1 := ⟨m - 1, by omega⟩
    rw [List.append_nil] at hL
    subst hL
    exact br_t (Int32.le_refl _) k
  | cons e R ih =>
    intro A m a hL hm k
    obtain ⟨m, rfl⟩ : ∃ p, m = p + 1 := ⟨m - 1, by omega⟩
    rw [List.length_cons] at hm
    have hlen : L.length = A.length + (R.length + 1) := by rw [hL]; simp
    have h20 := h.1
    have ha := h.2.1
    have hok := h.2.2
    rw [hL] at ha hok
    obtain ⟨a1, a2, a3, a4, a5⟩ := tp_A_at ha
    have hi : A.length < 20 := by omega
    have v0 : vp_in (nI A.length) 20 := vp_in_nI (by omega) (by omega)
    have c0 : (nI A.length).toNatClampNeg = A.length := nI_clamp (by omega)
    have next : ∀ b, post (tp_sn c w kk R b) → ∀ y, y = nI A.length + 1 → wY_seen_28 post c w kk tm (nI L.length) wn tu en ow ta mk tr lg wo hw wa m b y := by
      intro b kb
      refine nm_r (nI_1 _) ?_
      have := ih (A ++ [e]) m b (by simp [hL]) (by omega) kb
      rwa [List.length_append, List.length_singleton] at this
    have k0 : (tp_ft e.1 w && tp_se c e) = false → post (tp_sn c w kk R a) := fun z => by
      rw [tp_sn, if_neg (by rw [z]; decide)] at k
      exact k
    refine br_f (nI_ge (by omega) (by omega)) ?_
    refine tp_yseen (e := e) hi (tp_okL hok) a3 a4 (fun s1 => br_f (by decide) ⟨v0, ?_⟩) (fun s0 => br_t rfl (next a (k0 (by simp [s0]))))
    rw [c0, a1]
    refine tp_yfits (fun f1 => br_f (by decide) ?_) (fun f0 => br_t rfl (next a (k0 (by simp [f0]))))
    rw [tp_sn, if_pos (by rw [f1, s1]; rfl)] at k
    refine br_c (fun z => ⟨v0, ?_⟩) (fun z => nm_e (next _ ?_))
    · rw [if_pos z] at k
      exact k
    · rw [if_neg z] at k
      exact k
theorem tp_xnext5 {post : Int32 → Prop} {L : List tp_E} (h : tp_Y L tu en ow ta mk) :
    ∀ (R A : List tp_E) (m : Nat) (a : Int32), L = A ++ R → R.length < m → post (tp_nx tm R a) → wX_next_5 post (nI L.length) lv ql tm tu en ow ta mk wf tr lg wk wt qu m a (nI A.length) := by
  intro R
  induction R with
  | nil =>
    intro A m a hL hm k
    obtain ⟨m, rfl⟩ : ∃ p, m = p + 1 := ⟨m - 1, by omega⟩
    rw [List.append_nil] at hL
    subst hL
    exact br_t (Int32.le_refl _) k
  | cons e R ih =>
    intro A m a hL hm k
    obtain ⟨m, rfl⟩ : ∃ p, m = p + 1 := ⟨m - 1, by omega⟩
    rw [List.length_cons] at hm
    have hlen : L.length = A.length + (R.length + 1) := by rw [hL]; simp
    have h20 := h.1
    have ha := h.2.1
    rw [hL] at ha
    obtain ⟨a1, a2, a3, a4, a5⟩ := tp_A_at ha
    have v0 : vp_in (nI A.length) 20 := vp_in_nI (by omega) (by omega)
    have c0 : (nI A.length).toNatClampNeg = A.length := nI_clamp (by omega)
    have next : ∀ b, post (tp_nx tm R b) → ∀ y, y = nI A.length + 1 → wX_next_5 post (nI L.length) lv ql tm tu en ow ta mk wf tr lg wk wt qu m b y := by
      intro b kb
      refine nm_r (nI_1 _) ?_
      have := ih (A ++ [e]) m b (by simp [hL]) (by omega) kb
      rwa [List.length_append, List.length_singleton] at this
    refine br_f (nI_ge (by omega) (by omega)) ⟨v0, ?_⟩
    rw [c0, a2]
    rw [tp_nx] at k
    refine br_c (fun z => next _ (by rw [if_pos z] at k; exact k)) (fun z => ⟨v0, nm_e ?_⟩)
    rw [if_neg z] at k
    refine br_c (fun y => next _ (by rw [if_pos y] at k; exact k)) (fun y => ?_)
    rw [if_neg y] at k
    exact br_c (fun x => next _ (by rw [if_pos x] at k; exact k)) (fun x => next _ (by rw [if_neg x] at k; exact k))
theorem tp_ynext5 {post : Int32 → Prop} {L : List tp_E} (h : tp_Y L tu en ow ta mk) :
    ∀ (R A : List tp_E) (m : Nat) (a : Int32), L = A ++ R → R.length < m → post (tp_nx tm R a) → wY_next_5 post tm (nI L.length) wn tu en ow ta mk tr lg wo hw wa m a (nI A.length) := by
  intro R
  induction R with
  | nil =>
    intro A m a hL hm k
    obtain ⟨m, rfl⟩ : ∃ p, m = p + 1 := ⟨m - 1, by omega⟩
    rw [List.append_nil] at hL
    subst hL
    exact br_t (Int32.le_refl _) k
  | cons e R ih =>
    intro A m a hL hm k
    obtain ⟨m, rfl⟩ : ∃ p, m = p + 1 := ⟨m - 1, by omega⟩
    rw [List.length_cons] at hm
    have hlen : L.length = A.length + (R.length + 1) := by rw [hL]; simp
    have h20 := h.1
    have ha := h.2.1
    have hok := h.2.2
    rw [hL] at ha hok
    obtain ⟨a1, a2, a3, a4, a5⟩ := tp_A_at ha
    have t1 := (tp_neg (tp_okL hok).2.1).1
    have v0 : vp_in (nI A.length) 20 := vp_in_nI (by omega) (by omega)
    have c0 : (nI A.length).toNatClampNeg = A.length := nI_clamp (by omega)
    have next : ∀ b, post (tp_nx tm R b) → ∀ y, y = nI A.length + 1 → wY_next_5 post tm (nI L.length) wn tu en ow ta mk tr lg wo hw wa m b y := by
      intro b kb
      refine nm_r (nI_1 _) ?_
      have := ih (A ++ [e]) m b (by simp [hL]) (by omega) kb
      rwa [List.length_append, List.length_singleton] at this
    have G : post (tp_nx tm R (e.2.1 - tm)) → wY_next_43 post (wY_next_5 post tm (nI L.length) wn tu en ow ta mk tr lg wo hw wa m) (nI A.length) tm (nI L.length) wn tu en ow ta mk tr lg wo hw wa := by
      intro kb
      unfold wY_next_43
      exact ⟨v0, nm_r (by rw [c0, a2]) (next _ kb)⟩
    refine br_f (nI_ge (by omega) (by omega)) ⟨v0, ?_⟩
    rw [c0, a2]
    rw [tp_nx] at k
    refine br_c (fun z => next _ (by rw [if_pos (t1.mp z)] at k; exact k)) (fun z => ?_)
    rw [if_neg (fun q => z (t1.mpr q))] at k
    refine br_c (fun y => G (by rw [if_pos y] at k; exact k)) (fun y => ⟨v0, ?_⟩)
    rw [if_neg y] at k
    exact br_c (fun x => next _ (by rw [if_pos x] at k; exact k)) (fun x => G (by rw [if_neg x] at k; exact k))
end
