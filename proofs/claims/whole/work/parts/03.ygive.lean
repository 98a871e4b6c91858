section
variable {tm n wn : Int32} {tu en ow ta mk tr lg wo hw wa : Nat → Int32}
theorem tp_neg {x : Int32} (h : x = -1 ∨ 0 ≤ x) : (x < 0 ↔ x = -1) ∧ (0 ≤ x ↔ ¬ x = -1) := by
  rcases h with h | h
  · subst h
    decide
  · have h1 : ¬ x < 0 := Int32.not_lt.mpr h
    have h2 : ¬ x = -1 := fun z => h1 (by rw [z]; decide)
    exact ⟨⟨fun z => absurd z h1, fun z => absurd z h2⟩, ⟨fun _ => h2, fun _ => h⟩⟩
theorem tp_yfits {post : Int32 → Prop} {t w : Int32} (h1 : tp_ft t w = true → post 1) (h0 : tp_ft t w = false → post 0) :
    wpY_fits post (tm, n, wn, tu, en, ow, ta, mk, tr, lg, wo, hw, wa) t w := by
  rw [tp_ft, decide_eq_true_eq] at h1
  rw [tp_ft, decide_eq_false_iff_not] at h0
  unfold wpY_fits wY_fits_25
  dsimp only
  have K : (w / 17 = 16 ∨ w / 17 = t / 16) → ((w - w / 17 * 17 = 16 → post 1) ∧ (¬ w - w / 17 * 17 = 16 → ((¬ (16 : Int32) = 0 ∧ ((w - w / 17 * 17 = t - t / 16 * 16 → post 1) ∧ (¬ w - w / 17 * 17 = t - t / 16 * 16 → post 0)))))) :=
    fun z => br_c (fun c => h1 ⟨z, Or.inl c⟩) (fun c => ⟨by decide, br_c (fun d => h1 ⟨z, Or.inr d⟩) (fun d => h0 (fun y => y.2.elim c d))⟩)
  exact ⟨by decide, nm_e ⟨by decide, nm_e (br_c (fun a => K (Or.inl a)) (fun a => ⟨by decide, br_c (fun b => K (Or.inr b)) (fun b => h0 (fun y => y.1.elim a b))⟩))⟩⟩
theorem tp_yseen {post : Int32 → Prop} {i : Nat} {c : Int32} {e : tp_E} (hi : i < 20) (he : tp_ok e) (ho : ow i = e.2.2.1) (ht : ta i = e.2.2.2.1) (h1 : tp_se c e = true → post 1) (h0 : tp_se c e = false → post 0) :
    wpY_isSeen post (tm, n, wn, tu, en, ow, ta, mk, tr, lg, wo, hw, wa) (nI i) c := by
  have hv : vp_in (nI i) 20 := vp_in_nI hi (by omega)
  have hc : (nI i).toNatClampNeg = i := nI_clamp (by omega)
  rw [tp_se, decide_eq_true_eq] at h1
  rw [tp_se, decide_eq_false_iff_not] at h0
  obtain ⟨_, _, o3, o4⟩ := he
  have t2 := (tp_neg o4).2
  have w1 := (tp_neg o3).1
  unfold wpY_isSeen
  simp only [hc, ho, ht]
  refine ⟨hv, br_c (fun a => h0 (fun y => t2.mp a y.1)) (fun a => ?_)⟩
  have a' : e.2.2.2.1 = -1 := Classical.byContradiction (fun z => a (t2.mpr z))
  exact ⟨hv, br_c (fun b => h1 ⟨a', Or.inl (w1.mp b)⟩) (fun b => ⟨hv, br_c (fun d => h1 ⟨a', Or.inr d⟩) (fun d => h0 (fun y => y.2.elim (fun z => b (w1.mpr z)) d))⟩)⟩
theorem tp_yfree {post : Int32 → Prop} {i : Nat} {c : Int32} {e : tp_E} (hi : i < 20) (he : tp_ok e) (ho : ow i = e.2.2.1) (ht : ta i = e.2.2.2.1) (hm : mk i = e.2.2.2.2)
    (h1 : tp_se c e = true → tp_fr c e = true → post 1) (h0 : (tp_se c e && tp_fr c e) = false → post 0) :
    wpY_isFree post (tm, n, wn, tu, en, ow, ta, mk, tr, lg, wo, hw, wa) (nI i) c := by
  have hv : vp_in (nI i) 20 := vp_in_nI hi (by omega)
  have hc : (nI i).toNatClampNeg = i := nI_clamp (by omega)
  unfold wpY_isFree
  dsimp only
  refine tp_yseen hi he ho ht (fun s1 => br_f (by decide) ⟨hv, ?_⟩) (fun s0 => br_t rfl (h0 (by simp [s0])))
  rw [hc, hm]
  exact br_c (fun z => h1 s1 (by rw [tp_fr, decide_eq_true_eq]; exact z)) (fun z => h0 (by
    have : tp_fr c e = false := by rw [tp_fr, decide_eq_false_iff_not]; exact z
    simp [this]))
/-! removal -/
theorem tp_yrm2 {post : SY → Prop} (m : Nat) (hm : m < 20) (hn : n = nI (m + 1)) : ∀ (d i p : Nat) (tu en ow ta mk : Nat → Int32), i + d = m → d < p →
    post (tm, nI m, wn, tp_sh tu i m, tp_sh en i m, tp_sh ow i m, tp_sh ta i m, tp_sh mk i m, tr, lg, wo, hw, wa) →
    wY_remove_2 post tm n wn p (nI i) tu en ow ta mk tr lg wo hw wa := by
  have hp1 : n - 1 = nI m := by rw [hn, nI_pred]
  intro d
  induction d with
  | zero =>
    intro i p tu en ow ta mk hi hp h
    obtain ⟨p, rfl⟩ : ∃ q, p = q + 1 := ⟨p - 1, by omega⟩
    obtain rfl : i = m := by omega
    simp only [tp_sh_e] at h
    exact br_t (by rw [hp1]; exact Int32.le_refl _) (nm_r hp1 h)
  | succ d ih =>
    intro i p tu en ow ta mk hi hp h
    obtain ⟨p, rfl⟩ : ∃ q, p = q + 1 := ⟨p - 1, by omega⟩
    have v0 : vp_in (nI i) 20 := vp_in_nI (by omega) (by omega)
    have v1 : vp_in (nI i + 1) 20 := by rw [nI_1]; exact vp_in_nI (by omega) (by omega)
    have c0 : (nI i).toNatClampNeg = i := nI_clamp (by omega)
    have c1 : (nI i + 1).toNatClampNeg = i + 1 := by rw [nI_1]; exact nI_clamp (by omega)
    have im : i < m := by omega
    rw [← tp_sh_s tu im, ← tp_sh_s en im, ← tp_sh_s ow im, ← tp_sh_s ta im, ← tp_sh_s mk im] at h
    refine br_f (by rw [hp1]; exact nI_ge im (by omega)) ⟨v1, v0, nm_r (by rw [c0, c1]) ⟨v1, v0, nm_r (by rw [c0, c1]) ⟨v1, v0, nm_r (by rw [c0, c1]) ⟨v1, v0, nm_r (by rw [c0, c1]) ⟨v1, v0, nm_r (by rw [c0, c1]) (nm_r (nI_1 _) ?_)⟩⟩⟩⟩⟩
    exact ih (i + 1) p _ _ _ _ _ (by omega) (by omega) h
theorem tp_yrm {post : SY → Prop} {A B : List tp_E} {e : tp_E} (hn : n = nI (A ++ e :: B).length) (h : tp_Y (A ++ e :: B) tu en ow ta mk)
    (k : ∀ tu' en' ow' ta' mk' : Nat → Int32, tp_Y (A ++ B) tu' en' ow' ta' mk' → post (tm, nI (A ++ B).length, wn, tu', en', ow', ta', mk', tr, lg, wo, hw, wa)) :
    wpY_remove post (tm, n, wn, tu, en, ow, ta, mk, tr, lg, wo, hw, wa) (nI A.length) := by
  obtain ⟨h20, hA, hok⟩ := h
  have hlen : (A ++ e :: B).length = (A.length + B.length) + 1 := by simp; omega
  have hl' : (A ++ B).length = A.length + B.length := by simp
  unfold wpY_remove
  dsimp only
  refine ⟨B.length + 1, ?_⟩
  refine tp_yrm2 (A.length + B.length) (by omega) (by rw [hn, hlen]) B.length A.length _ _ _ _ _ _ rfl (by omega) ?_
  rw [← hl']
  exact k _ _ _ _ _ ⟨by omega, tp_A_rm hA _ hl', tp_okR hok⟩
theorem tp_ytake {post : SY → Prop} {A B : List tp_E} {e : tp_E} {c : Nat} (hc : c < 4) (hn : n = nI (A ++ e :: B).length) (h : tp_Y (A ++ e :: B) tu en ow ta mk)
    (k : ∀ tu' en' ow' ta' mk' : Nat → Int32, tp_Y (A ++ (tp_tk (tr c) (nI c) e ++ B)) tu' en' ow' ta' mk' → post (tm, nI (A ++ (tp_tk (tr c) (nI c) e ++ B)).length, wn, tu', en', ow', ta', mk', tr, lg, wo, hw, wa)) :
    wpY_take post (tm, n, wn, tu, en, ow, ta, mk, tr, lg, wo, hw, wa) (nI A.length) (nI c) := by
  obtain ⟨h20, hA, hok⟩ := id h
  have hlen : (A ++ e :: B).length = (A.length + B.length) + 1 := by simp; omega
  have v0 : vp_in (nI A.length) 20 := vp_in_nI (by omega) (by omega)
  have c0 : (nI A.length).toNatClampNeg = A.length := nI_clamp (by omega)
  have vc : vp_in (nI c) 4 := vp_in_nI hc (by omega)
  have cc : (nI c).toNatClampNeg = c := nI_clamp (by omega)
  obtain ⟨a1, a2, a3, a4, a5⟩ := tp_A_at hA
  have K : (tr c = 0 ∨ e.2.2.1 = nI c) → wY_take_19 post (nI A.length) tm n wn tu en ow ta mk tr lg wo hw wa := by
    intro z
    rw [tp_tk, if_pos z] at k
    unfold wY_take_19
    exact tp_yrm hn h k
  unfold wpY_take
  simp only [c0, cc, a3]
  refine ⟨vc, br_c (fun z => K (Or.inl z)) (fun z => ⟨v0, br_c (fun y => K (Or.inr y)) (fun y => ⟨v0, nm_e ?_⟩)⟩)⟩
  rw [tp_tk, if_neg (fun x => x.elim z y)] at k
  have hl2 : (A ++ ([(e.1, e.2.1, e.2.2.1, nI c, e.2.2.2.2)] ++ B)).length = (A ++ e :: B).length := by simp
  rw [hl2, ← hn] at k
  refine k _ _ _ _ _ ⟨by omega, tp_A_set _ hA ⟨a1, a2, a3, pk_us, a5⟩ (fun i hi => ⟨rfl, rfl, rfl, pk_un hi, rfl⟩), tp_okS hok ?_⟩
  obtain ⟨o1, o2, o3, o4⟩ := tp_okL hok
  exact ⟨o1, o2, o3, Or.inr (nI_pos' (by omega))⟩
theorem tp_ygive54 {post : Int32 → SY → Prop} {A B : List tp_E} {e : tp_E} {c : Nat} {tk : Bool} {kd : Int32} (hkd : kd = if tk then 1 else 0) (hc : c < 4) (hn : n = nI (A ++ e :: B).length) (h : tp_Y (A ++ e :: B) tu en ow ta mk)
    (k : ∀ tu' en' ow' ta' mk' : Nat → Int32, tp_Y (A ++ (tp_ac tk (tr c) (nI c) e ++ B)) tu' en' ow' ta' mk' → post 1 (tm, nI (A ++ (tp_ac tk (tr c) (nI c) e ++ B)).length, wn, tu', en', ow', ta', mk', tr, upd lg c e.1, wo, hw, wa)) :
    wY_give_54 post (nI c) kd (nI A.length) tm n wn tu en ow ta mk tr lg wo hw wa := by
  obtain ⟨h20, hAA, hok⟩ := id h
  have hlen : (A ++ e :: B).length = (A.length + B.length) + 1 := by simp; omega
  have v0 : vp_in (nI A.length) 20 := vp_in_nI (by omega) (by omega)
  have c0 : (nI A.length).toNatClampNeg = A.length := nI_clamp (by omega)
  have vc : vp_in (nI c) 4 := vp_in_nI hc (by omega)
  have cc : (nI c).toNatClampNeg = c := nI_clamp (by omega)
  obtain ⟨a1, a2, a3, a4, a5⟩ := tp_A_at hAA
  unfold wY_give_54 wY_give_98
  refine ⟨v0, vc, nm_r (e' := upd lg c e.1) (by rw [cc, c0, a1]) ?_⟩
  cases tk with
  | true =>
    rw [tp_ac_t] at k
    have hk : ¬ kd = 0 := by rw [hkd]; decide
    exact br_f hk (br_f hk (tp_ytake hc hn h k))
  | false =>
    have hk : kd = 0 := hkd
    refine br_t hk ⟨vc, ?_⟩
    rw [cc]
    refine br_c (fun z => br_t hk ?_) (fun z => ⟨v0, v0, nm_r (by rw [c0, a5]) (br_t hk ?_)⟩)
    · rw [tp_ac_0 z] at k
      have k2 := k _ _ _ _ _ h
      rw [hn]
      exact k2
    · rw [tp_ac_1 z] at k
      have hl2 : (A ++ ([(e.1, e.2.1, e.2.2.1, e.2.2.2.1, e.2.2.2.2 ||| ((1 : Int32) <<< (nI c &&& 31)))] ++ B)).length = (A ++ e :: B).length := by simp
      have k2 := k tu en ow ta (upd mk A.length (e.2.2.2.2 ||| ((1 : Int32) <<< (nI c &&& 31))))
        ⟨by rw [hl2]; omega, tp_A_set _ hAA ⟨a1, a2, a3, a4, pk_us⟩ (fun i hi => ⟨rfl, rfl, rfl, rfl, pk_un hi⟩), tp_okS hok (tp_okL (e := e) hok)⟩
      rw [hl2, ← hn] at k2
      exact k2
theorem tp_ygive3 {post : Int32 → SY → Prop} {L : List tp_E} {c : Nat} {w : Int32} {tk : Bool} {kd : Int32} (hkd : kd = if tk then 1 else 0) (hc : c < 4) (h : tp_Y L tu en ow ta mk)
    (h0 : tp_gv tk (tr c) (nI c) w L = none → post 0 (tm, nI L.length, wn, tu, en, ow, ta, mk, tr, lg, wo, hw, wa))
    (h1 : ∀ t L', tp_gv tk (tr c) (nI c) w L = some (t, L') → ∀ tu' en' ow' ta' mk' : Nat → Int32, tp_Y L' tu' en' ow' ta' mk' → post 1 (tm, nI L'.length, wn, tu', en', ow', ta', mk', tr, upd lg c t, wo, hw, wa)) :
    ∀ (R A : List tp_E) (m : Nat), L = A ++ R → (∀ a, a ∈ A → tp_P tk (nI c) w a = false) → R.length < m →
    wY_give_3 post (nI c) kd w tm (nI L.length) wn tu en ow ta mk tr lg wo hw wa m (nI A.length) := by
  intro R
  induction R with
  | nil =>
    intro A m hL hA hm
    obtain ⟨m, rfl⟩ : ∃ p, m = p + 1 := ⟨m - 1, by omega⟩
    rw [List.append_nil] at hL
    subst hL
    exact br_t (Int32.le_refl _) (h0 (tp_gv_n hA))
  | cons e R ih =>
    intro A m hL hA hm
    obtain ⟨m, rfl⟩ : ∃ p, m = p + 1 := ⟨m - 1, by omega⟩
    have hlen : L.length = A.length + (R.length + 1) := by rw [hL]; simp
    have h20 := h.1
    have ha := h.2.1
    have hok := h.2.2
    rw [hL] at ha hok
    obtain ⟨a1, a2, a3, a4, a5⟩ := tp_A_at ha
    have he := tp_okL hok
    have hi : A.length < 20 := by omega
    have v0 : vp_in (nI A.length) 20 := vp_in_nI (by omega) (by omega)
    have c0 : (nI A.length).toNatClampNeg = A.length := nI_clamp (by omega)
    have next : tp_P tk (nI c) w e = false → ∀ y, y = nI A.length + 1 → wY_give_3 post (nI c) kd w tm (nI L.length) wn tu en ow ta mk tr lg wo hw wa m y := by
      intro hp
      refine nm_r (nI_1 _) ?_
      have := ih (A ++ [e]) m (by simp [hL]) (by
        intro x hx
        rw [List.mem_append, List.mem_singleton] at hx
        rcases hx with hx | hx
        · exact hA x hx
        · rw [hx]; exact hp) (by rw [List.length_cons] at hm; omega)
      rwa [List.length_append, List.length_singleton] at this
    have fin : tp_P tk (nI c) w e = true → wY_give_54 post (nI c) kd (nI A.length) tm (nI L.length) wn tu en ow ta mk tr lg wo hw wa := by
      intro hp
      subst hL
      exact tp_ygive54 hkd hc rfl h (h1 _ _ (tp_gv_s hp hA))
    refine br_f (nI_ge (by omega) (by omega)) ⟨v0, ?_⟩
    rw [c0, a1]
    refine tp_yfits (fun f1 => br_f (by decide) ?_) (fun f0 => br_t rfl (next (by simp [tp_P, f0])))
    cases tk with
    | false =>
      refine br_t hkd ?_
      exact tp_yseen (e := e) hi he a3 a4 (fun s1 => br_f (by decide) (fin (by simp [tp_P, f1, s1]))) (fun s0 => br_t rfl (next (by simp [tp_P, s0])))
    | true =>
      refine br_f (by rw [hkd]; decide) ?_
      exact tp_yfree (e := e) hi he a3 a4 a5 (fun s1 m1 => br_f (by decide) (fin (by simp [tp_P, f1, s1, m1]))) (fun m0 => br_t rfl (next (by
        simp only [tp_P, Bool.not_true, Bool.false_or, Bool.and_assoc, m0, Bool.and_false])))
theorem tp_ygive {post : Int32 → SY → Prop} {L : List tp_E} {c : Nat} {w : Int32} {tk : Bool} {kd : Int32} (hkd : kd = if tk then 1 else 0) (hc : c < 4) (h : tp_Y L tu en ow ta mk)
    (h0 : tp_gv tk (tr c) (nI c) w L = none → post 0 (tm, nI L.length, wn, tu, en, ow, ta, mk, tr, lg, wo, hw, wa))
    (h1 : ∀ t L', tp_gv tk (tr c) (nI c) w L = some (t, L') → ∀ tu' en' ow' ta' mk' : Nat → Int32, tp_Y L' tu' en' ow' ta' mk' → post 1 (tm, nI L'.length, wn, tu', en', ow', ta', mk', tr, upd lg c t, wo, hw, wa)) :
    wpY_give post (tm, nI L.length, wn, tu, en, ow, ta, mk, tr, lg, wo, hw, wa) (nI c) kd w := by
  unfold wpY_give
  dsimp only
  exact ⟨L.length + 1, tp_ygive3 hkd hc h h0 h1 L [] (L.length + 1) rfl (by simp) (by omega)⟩
end
