section
variable {tm n wn lv ql : Int32} {tu en ow ta mk wf tr lg wk wt qu wo hw wa tu2 en2 ow2 ta2 mk2 : Nat → Int32}
theorem tp_dec {Q : List tp_T} (hK : tp_K Q wk wt) (hO : tp_QO Q) {c : Nat} (hc : c < 4) : (wk c = 0 ∧ ∀ q, q ∈ Q → q.1 ≠ c) ∨ (¬ wk c = 0 ∧ ∃ K q R, Q = K ++ q :: R ∧ q.1 = c) := by
  by_cases z : wk c = 0
  · exact Or.inl ⟨z, (tp_wk hK hO hc).mp z⟩
  · refine Or.inr ⟨z, ?_⟩
    have hn : ¬ ∀ q, q ∈ Q → q.1 ≠ c := fun y => z ((tp_wk hK hO hc).mpr y)
    have he : ∃ q, q ∈ Q ∧ q.1 = c := Classical.byContradiction (fun y => hn (fun q hq hqc => y ⟨q, hq, hqc⟩))
    obtain ⟨q, hq, hqc⟩ := he
    obtain ⟨K, R, e⟩ := List.append_of_mem hq
    exact ⟨K, q, R, e, hqc⟩
theorem tp_yq_no {post : Int32 → Prop} {Q : List tp_T} {c : Nat} (hQY : tp_QY Q wo hw wa) (hO : tp_QO Q) (hc : c < 4) (hn : ∀ q, q ∈ Q → q.1 ≠ c) (h : post (-1)) : wpY_queued post (tm, n, nI Q.length, tu, en, ow, ta, mk, tr, lg, wo, hw, wa) (nI c) := by
  refine tp_yqueued hQY (tp_Q4 hO) (fun _ => h) (fun K q R e _ hq => ?_)
  have hm : q ∈ Q := by rw [e]; simp
  have h4 := (hO.1 q hm).1
  exact absurd ((nI_eq (by omega) (by omega)).mp hq) (hn q hm)
theorem tp_fsK {K R : List tp_T} {q : tp_T} (hO : tp_QO (K ++ q :: R)) : ∀ x, x ∈ K → nI x.1 ≠ nI q.1 := by
  intro x hx hq
  have hm : x ∈ K ++ R := by rw [List.mem_append]; exact Or.inl hx
  have h4 := (hO.1 x (tp_memR hm)).1
  have h5 := (hO.1 q (by simp)).1
  exact (tp_pair hO.2).2 x hm ((nI_eq (by omega) (by omega)).mp hq)
theorem tp_yq_yes {post : Int32 → Prop} {K R : List tp_T} {q : tp_T} (hQY : tp_QY (K ++ q :: R) wo hw wa) (hO : tp_QO (K ++ q :: R)) (h : post (nI K.length)) : wpY_queued post (tm, n, nI (K ++ q :: R).length, tu, en, ow, ta, mk, tr, lg, wo, hw, wa) (nI q.1) := by
  refine tp_yqueued hQY (tp_Q4 hO) (fun z => absurd rfl (z q (by simp))) (fun K' q' R' e hK' hq' => ?_)
  rw [← tp_one e (tp_fsK hO) rfl hK' hq']
  exact h
theorem tp_xp_no {post : Int32 → Prop} {Q : List tp_T} {c : Nat} (hQ : tp_QQ Q qu) (hO : tp_QO Q) (hc : c < 4) (hn : ∀ q, q ∈ Q → q.1 ≠ c) (h : post (-4)) : ∃ m : Nat, wX_place_11 post (nI c) n lv (nI Q.length) tm tu en ow ta mk wf tr lg wk wt qu m 0 := by
  refine ⟨Q.length + 1, tp_xp11 hQ (tp_Q4 hO) (fun _ => h) (fun K q R e _ hq => ?_) Q [] (Q.length + 1) rfl (by simp) (by omega)⟩
  have hm : q ∈ Q := by rw [e]; simp
  have h4 := (hO.1 q hm).1
  exact absurd ((nI_eq (by omega) (by omega)).mp hq) (hn q hm)
theorem tp_xp_yes {post : Int32 → Prop} {K R : List tp_T} {q : tp_T} (hQ : tp_QQ (K ++ q :: R) qu) (hO : tp_QO (K ++ q :: R)) (h : post (nI K.length)) : ∃ m : Nat, wX_place_11 post (nI q.1) n lv (nI (K ++ q :: R).length) tm tu en ow ta mk wf tr lg wk wt qu m 0 := by
  refine ⟨(K ++ q :: R).length + 1, tp_xp11 hQ (tp_Q4 hO) (fun z => absurd rfl (z q (by simp))) (fun K' q' R' e hK' hq' => ?_) (K ++ q :: R) [] ((K ++ q :: R).length + 1) rfl (by simp) (by omega)⟩
  rw [← tp_one e (tp_fsK hO) rfl hK' hq']
  exact h
end
/-- the two spaces hold the same entries, in the order of their age, and the same queue -/
def i_Rel (k : Nat) (u : SX) (v : SY) : Prop :=
  ∃ (L : List tp_E) (Q : List tp_T) (t : Nat) (lv : Int32) (tr lg tu en ow ta mk wf wk wt qu tu2 en2 ow2 ta2 mk2 wo hw wa : Nat → Int32),
    u = (nI L.length, lv, nI Q.length, nI t, tu, en, ow, ta, mk, wf, tr, lg, wk, wt, qu) ∧ v = (nI t, nI L.length, nI Q.length, tu2, en2, ow2, ta2, mk2, tr, lg, wo, hw, wa) ∧ tp_X L tu en ow ta mk wf ∧ tp_Y L tu2 en2 ow2 ta2 mk2 ∧ tp_QQ Q qu ∧ tp_QY Q wo hw wa ∧ tp_K Q wk wt ∧ tp_QO Q ∧ t ≤ 50 * k
theorem tp_rel {k : Nat} {L : List tp_E} {Q : List tp_T} {t : Nat} {lv : Int32} {tr lg tu en ow ta mk wf wk wt qu tu2 en2 ow2 ta2 mk2 wo hw wa : Nat → Int32}
    (hX : tp_X L tu en ow ta mk wf) (hY : tp_Y L tu2 en2 ow2 ta2 mk2) (hQ : tp_QQ Q qu) (hQY : tp_QY Q wo hw wa) (hK : tp_K Q wk wt) (hO : tp_QO Q) (ht : t ≤ 50 * k) : i_Rel k (nI L.length, lv, nI Q.length, nI t, tu, en, ow, ta, mk, wf, tr, lg, wk, wt, qu) (nI t, nI L.length, nI Q.length, tu2, en2, ow2, ta2, mk2, tr, lg, wo, hw, wa) :=
  ⟨L, Q, t, lv, tr, lg, tu, en, ow, ta, mk, wf, wk, wt, qu, tu2, en2, ow2, ta2, mk2, wo, hw, wa, rfl, rfl, hX, hY, hQ, hQY, hK, hO, ht⟩
theorem i_up {k : Nat} {u : SX} {v : SY} (h : i_Rel k u v) : i_Rel (k + 4) u v := by
  obtain ⟨L, Q, t, lv, tr, lg, tu, en, ow, ta, mk, wf, wk, wt, qu, tu2, en2, ow2, ta2, mk2, wo, hw, wa, e1, e2, hX, hY, hQ, hQY, hK, hO, ht⟩ := h
  exact ⟨L, Q, t, lv, tr, lg, tu, en, ow, ta, mk, wf, wk, wt, qu, tu2, en2, ow2, ta2, mk2, wo, hw, wa, e1, e2, hX, hY, hQ, hQY, hK, hO, by omega⟩
theorem i_vc0 : wpX_init (fun u => wpY_init (fun v => i_Rel 0 u v)) := by
  have v0 : vp_in 0 4 := vp_in_iff.mpr (by decide)
  have v1 : vp_in (0 + 1) 4 := vp_in_iff.mpr (by decide)
  have v2 : vp_in (0 + 1 + 1) 4 := vp_in_iff.mpr (by decide)
  have v3 : vp_in (0 + 1 + 1 + 1) 4 := vp_in_iff.mpr (by decide)
  have hY : tp_Y [] (fun _ => 0) (fun _ => 0) (fun _ => 0) (fun _ => 0) (fun _ => 0) := ⟨by simp, fun i e h => by simp at h, fun e h => by simp at h⟩
  unfold wpX_init wpY_init
  refine ⟨5, br_f (by decide) ⟨v0, nm_e (nm_e (br_f (by decide) ⟨v1, nm_e (nm_e (br_f (by decide) ⟨v2, nm_e (nm_e (br_f (by decide) ⟨v3, nm_e (nm_e (br_t (by decide) ?_))⟩))⟩))⟩))⟩⟩
  refine ⟨5, br_f (by decide) ⟨v0, nm_e (nm_e (br_f (by decide) ⟨v1, nm_e (nm_e (br_f (by decide) ⟨v2, nm_e (nm_e (br_f (by decide) ⟨v3, nm_e (nm_e (br_t (by decide) ?_))⟩))⟩))⟩))⟩⟩
  exact tp_rel (L := []) (Q := []) (t := 0) ⟨hY, fun f hf => rfl⟩ hY (fun i q h => by simp at h) (fun i q h => by simp at h) ⟨fun q h => by simp at h, fun c hc _ => rfl⟩ ⟨fun q h => by simp at h, List.Pairwise.nil⟩ (by omega)
theorem i_vc_given {k : Nat} {u : SX} {v : SY} (I : i_Rel k u v) (hk : k + 4 ≤ 2048) (v1 : Int32) : wpX_given (fun r => wpY_given (fun r' => r' = r ∧ i_Rel (k + 4) u v) v v1) u v1 := by
  have J := i_up I
  obtain ⟨L, Q, t, lv, tr, lg, tu, en, ow, ta, mk, wf, wk, wt, qu, tu2, en2, ow2, ta2, mk2, wo, hw, wa, rfl, rfl, hX, hY, hQ, hQY, hK, hO, ht⟩ := I
  unfold wpX_given wpY_given
  dsimp only
  rcases tp_rg v1 3 (by decide) with ⟨c, hc, rfl⟩ | hb
  · have vc : vp_in (nI c) 4 := vp_in_nI (by omega) (by omega)
    exact tp_xcl_t (by omega) (br_f (by decide) ⟨vc, tp_ycl_t (by omega) (br_f (by decide) ⟨vc, rfl, J⟩)⟩)
  · exact tp_xcl_f hb (br_t rfl (tp_ycl_f hb (br_t rfl ⟨rfl, J⟩)))
theorem i_vc_begin {k : Nat} {u : SX} {v : SY} (I : i_Rel k u v) (hk : k + 4 ≤ 2048) (v1 : Int32) : wpX_begin (fun r u' => wpY_begin (fun r' v' => r' = r ∧ i_Rel (k + 4) u' v') v v1) u v1 := by
  have J := i_up I
  obtain ⟨L, Q, t, lv, tr, lg, tu, en, ow, ta, mk, wf, wk, wt, qu, tu2, en2, ow2, ta2, mk2, wo, hw, wa, rfl, rfl, hX, hY, hQ, hQY, hK, hO, ht⟩ := I
  unfold wpX_begin wpY_begin
  dsimp only
  rcases tp_rg v1 3 (by decide) with ⟨c, hc, rfl⟩ | hb
  · have hc4 : c < 4 := by omega
    have vc : vp_in (nI c) 4 := vp_in_nI hc4 (by omega)
    have cc : (nI c).toNatClampNeg = c := nI_clamp (by omega)
    rw [cc]
    refine tp_xcl_t hc4 (br_f (by decide) ⟨vc, ?_⟩)
    rcases tp_dec hK hO hc4 with ⟨z, hn⟩ | ⟨z, K, q, R, rfl, rfl⟩
    · refine br_t z ⟨vc, br_c (fun y => ⟨vc, nm_e ?_⟩) (fun y => ?_)⟩
      · exact tp_ycl_t hc4 (br_f (by decide) (tp_yq_no hQY hO hc4 hn (br_f (by decide) ⟨vc, br_t y ⟨vc, nm_e ⟨rfl, tp_rel hX hY hQ hQY hK hO (by omega)⟩⟩⟩)))
      · exact tp_ycl_t hc4 (br_f (by decide) (tp_yq_no hQY hO hc4 hn (br_f (by decide) ⟨vc, br_f y ⟨rfl, J⟩⟩)))
    · have h4 := tp_Q4 hO
      rw [List.length_append] at h4
      exact br_f z (tp_ycl_t hc4 (br_f (by decide) (tp_yq_yes hQY hO (br_t (nI_pos' (by omega)) ⟨rfl, J⟩))))
  · exact tp_xcl_f hb (br_t rfl (tp_ycl_f hb (br_t rfl ⟨rfl, J⟩)))
theorem i_vc_state {k : Nat} {u : SX} {v : SY} (I : i_Rel k u v) (hk : k + 4 ≤ 2048) (v1 : Int32) : wpX_state (fun r => wpY_state (fun r' => r' = r ∧ i_Rel (k + 4) u v) v v1) u v1 := by
  have J := i_up I
  obtain ⟨L, Q, t, lv, tr, lg, tu, en, ow, ta, mk, wf, wk, wt, qu, tu2, en2, ow2, ta2, mk2, wo, hw, wa, rfl, rfl, hX, hY, hQ, hQY, hK, hO, ht⟩ := I
  unfold wpX_state wpY_state wY_state_32
  dsimp only
  rcases tp_rg v1 3 (by decide) with ⟨c, hc, rfl⟩ | hb
  · have hc4 : c < 4 := by omega
    have vc : vp_in (nI c) 4 := vp_in_nI hc4 (by omega)
    have cc : (nI c).toNatClampNeg = c := nI_clamp (by omega)
    rw [cc]
    refine tp_xcl_t hc4 (br_f (by decide) ⟨vc, ?_⟩)
    rcases tp_dec hK hO hc4 with ⟨z, hn⟩ | ⟨z, K, q, R, rfl, rfl⟩
    · refine br_c (fun y => ⟨vc, ?_⟩) (fun y => ⟨vc, ?_⟩)
      · exact tp_ycl_t hc4 (br_f (by decide) (tp_yq_no hQY hO hc4 hn (br_f (by decide) ⟨vc, br_t y ⟨by rw [z]; rfl, J⟩⟩)))
      · exact tp_ycl_t hc4 (br_f (by decide) (tp_yq_no hQY hO hc4 hn (br_f (by decide) ⟨vc, br_f y ⟨by rw [z], J⟩⟩)))
    · have h4 := tp_Q4 hO
      rw [List.length_append, List.length_cons] at h4
      have vk : vp_in (nI K.length) 4 := vp_in_nI (by omega) (by omega)
      have ck : (nI K.length).toNatClampNeg = K.length := nI_clamp (by omega)
      have hh : hw (nI K.length).toNatClampNeg + 1 = wk q.1 := by
        rw [ck, (tp_QY_at hQY).2.1, (hK.1 q (by simp)).1, nI_1]
      refine br_c (fun y => ⟨vc, ?_⟩) (fun y => ⟨vc, ?_⟩)
      · exact tp_ycl_t hc4 (br_f (by decide) (tp_yq_yes hQY hO (br_t (nI_pos' (by omega)) ⟨vk, vc, br_t y ⟨by rw [hh, Int32.add_zero], J⟩⟩)))
      · exact tp_ycl_t hc4 (br_f (by decide) (tp_yq_yes hQY hO (br_t (nI_pos' (by omega)) ⟨vk, vc, br_f y ⟨by rw [hh], J⟩⟩)))
  · exact tp_xcl_f hb (br_t rfl (tp_ycl_f hb (br_t rfl ⟨rfl, J⟩)))
theorem i_vc_place {k : Nat} {u : SX} {v : SY} (I : i_Rel k u v) (hk : k + 4 ≤ 2048) (v1 : Int32) : wpX_place (fun r => wpY_place (fun r' => r' = r ∧ i_Rel (k + 4) u v) v v1) u v1 := by
  have J := i_up I
  obtain ⟨L, Q, t, lv, tr, lg, tu, en, ow, ta, mk, wf, wk, wt, qu, tu2, en2, ow2, ta2, mk2, wo, hw, wa, rfl, rfl, hX, hY, hQ, hQY, hK, hO, ht⟩ := I
  unfold wpX_place wpY_place
  dsimp only
  rcases tp_rg v1 3 (by decide) with ⟨c, hc, rfl⟩ | hb
  · have hc4 : c < 4 := by omega
    refine tp_xcl_t hc4 (br_f (by decide) ?_)
    rcases tp_dec hK hO hc4 with ⟨z, hn⟩ | ⟨z, K, q, R, rfl, rfl⟩
    · exact tp_xp_no hQ hO hc4 hn (tp_ycl_t hc4 (br_f (by decide) (tp_yq_no hQY hO hc4 hn (br_f (by decide) ⟨rfl, J⟩))))
    · have h4 := tp_Q4 hO
      rw [List.length_append] at h4
      exact tp_xp_yes hQ hO (tp_ycl_t hc4 (br_f (by decide) (tp_yq_yes hQY hO (br_t (nI_pos' (by omega)) ⟨rfl, J⟩))))
  · exact tp_xcl_f hb (br_t rfl (tp_ycl_f hb (br_t rfl ⟨rfl, J⟩)))
theorem i_vc_cancel {k : Nat} {u : SX} {v : SY} (I : i_Rel k u v) (hk : k + 4 ≤ 2048) (v1 : Int32) : wpX_cancel (fun r u' => wpY_cancel (fun r' v' => r' = r ∧ i_Rel (k + 4) u' v') v v1) u v1 := by
  have J := i_up I
  obtain ⟨L, Q, t, lv, tr, lg, tu, en, ow, ta, mk, wf, wk, wt, qu, tu2, en2, ow2, ta2, mk2, wo, hw, wa, rfl, rfl, hX, hY, hQ, hQY, hK, hO, ht⟩ := I
  unfold wpX_cancel wpY_cancel
  dsimp only
  rcases tp_rg v1 3 (by decide) with ⟨c, hc, rfl⟩ | hb
  · have hc4 : c < 4 := by omega
    have vc : vp_in (nI c) 4 := vp_in_nI hc4 (by omega)
    have cc : (nI c).toNatClampNeg = c := nI_clamp (by omega)
    rw [cc]
    refine tp_xcl_t hc4 (br_f (by decide) ⟨vc, ?_⟩)
    rcases tp_dec hK hO hc4 with ⟨z, hn⟩ | ⟨z, K, q, R, rfl, rfl⟩
    · exact br_t z (tp_yq_no hQY hO hc4 hn (tp_ycl_t hc4 (br_f (by decide) (br_f (by decide) ⟨rfl, J⟩))))
    · have h4 := tp_Q4 hO
      have h5 := h4
      rw [List.length_append] at h5
      refine br_f z ⟨vc, nm_e (tp_xleave hO hQ rfl (fun qu' hQ' => ?_))⟩
      exact tp_yq_yes hQY hO (tp_ycl_t hc4 (br_f (by decide) (br_t (nI_pos' (by omega)) (tp_ystop h4 rfl hQY (fun wo' hw' wa' hQY' => ⟨rfl, tp_rel hX hY hQ' hQY' (tp_K_rm hO.2 hK) (tp_QO_rm hO) (by omega)⟩)))))
  · exact tp_xcl_f hb (br_t rfl (tp_yqueued hQY (tp_Q4 hO) (fun _ => tp_ycl_f hb (br_t rfl ⟨rfl, J⟩)) (fun K q R _ _ _ => tp_ycl_f hb (br_t rfl ⟨rfl, J⟩))))
theorem i_vc_entries {k : Nat} {u : SX} {v : SY} (I : i_Rel k u v) (hk : k + 4 ≤ 2048) : wpX_entries (fun r => wpY_entries (fun r' => r' = r ∧ i_Rel (k + 4) u v) v) u := by
  have J := i_up I
  obtain ⟨L, Q, t, lv, tr, lg, tu, en, ow, ta, mk, wf, wk, wt, qu, tu2, en2, ow2, ta2, mk2, wo, hw, wa, rfl, rfl, hX, hY, hQ, hQY, hK, hO, ht⟩ := I
  exact ⟨rfl, J⟩
theorem i_vc_level {k : Nat} {u : SX} {v : SY} (I : i_Rel k u v) (hk : k + 4 ≤ 2048) (v1 : Int32) : wpX_level (fun r u' => wpY_level (fun r' => r' = r ∧ i_Rel (k + 4) u' v) v v1) u v1 := by
  have J := i_up I
  obtain ⟨L, Q, t, lv, tr, lg, tu, en, ow, ta, mk, wf, wk, wt, qu, tu2, en2, ow2, ta2, mk2, wo, hw, wa, rfl, rfl, hX, hY, hQ, hQY, hK, hO, ht⟩ := I
  unfold wpX_level wpY_level
  dsimp only
  rcases tp_rg v1 1 (by decide) with ⟨c, hc, rfl⟩ | hb
  · refine br_f (nI_pos (by omega)) (br_t (nI_le (b := 1) hc (by decide)) ?_)
    have J2 : i_Rel (k + 4) (nI L.length, nI c, nI Q.length, nI t, tu, en, ow, ta, mk, wf, tr, lg, wk, wt, qu) (nI t, nI L.length, nI Q.length, tu2, en2, ow2, ta2, mk2, tr, lg, wo, hw, wa) := tp_rel hX hY hQ hQY hK hO (by omega)
    obtain rfl | rfl : c = 0 ∨ c = 1 := by omega
    · exact br_t rfl ⟨rfl, J2⟩
    · exact br_f (by decide) (br_t rfl ⟨rfl, J2⟩)
  · have h0 : ¬ v1 = 0 := fun z => by
      subst z
      exact hb.elim (by decide) (by decide)
    have h1 : ¬ v1 = 1 := fun z => by
      subst z
      exact hb.elim (by decide) (by decide)
    refine br_c (fun _ => br_f h0 (br_f h1 ⟨rfl, J⟩)) (fun z => br_f (fun y => ?_) (br_f h0 (br_f h1 ⟨rfl, J⟩)))
    exact hb.elim z (Int32.not_lt.mpr y)
theorem i_vc_next {k : Nat} {u : SX} {v : SY} (I : i_Rel k u v) (hk : k + 4 ≤ 2048) : wpX_next (fun r => wpY_next (fun r' => r' = r ∧ i_Rel (k + 4) u v) v) u := by
  have J := i_up I
  obtain ⟨L, Q, t, lv, tr, lg, tu, en, ow, ta, mk, wf, wk, wt, qu, tu2, en2, ow2, ta2, mk2, wo, hw, wa, rfl, rfl, hX, hY, hQ, hQY, hK, hO, ht⟩ := I
  unfold wpX_next wpY_next
  dsimp only
  exact ⟨L.length + 1, tp_xnext5 hX.1 L [] (L.length + 1) (-4) rfl (by omega) ⟨L.length + 1, tp_ynext5 hY L [] (L.length + 1) (-4) rfl (by omega) ⟨rfl, J⟩⟩⟩
theorem i_vc_count {k : Nat} {u : SX} {v : SY} (I : i_Rel k u v) (hk : k + 4 ≤ 2048) (v1 : Int32) (v2 : Int32) : wpX_count (fun r => wpY_count (fun r' => r' = r ∧ i_Rel (k + 4) u v) v v1 v2) u v1 v2 := by
  have J := i_up I
  obtain ⟨L, Q, t, lv, tr, lg, tu, en, ow, ta, mk, wf, wk, wt, qu, tu2, en2, ow2, ta2, mk2, wo, hw, wa, rfl, rfl, hX, hY, hQ, hQY, hK, hO, ht⟩ := I
  unfold wpX_count wpY_count
  dsimp only
  rcases tp_rg v1 3 (by decide) with ⟨c, hc, rfl⟩ | hb
  · rcases tp_rg v2 288 (by decide) with ⟨w, hw288, rfl⟩ | hb
    · refine tp_xcl_t (by omega) (br_f (by decide) (tp_xte_t hw288 (br_f (by decide) (tp_xstop hw288 hX ⟨L.length + 1, ?_⟩ (fun hz => ⟨1, br_t (Int32.le_refl _) ?_⟩)))))
      · refine tp_xcount28 hX.1 L [] (L.length + 1) 0 rfl (by omega) ?_
        exact tp_ycl_t (by omega) (br_f (by decide) (tp_yin_t (nI_pos (by omega)) (nI_nlt (a := 288) hw288 (by decide)) (br_f (by decide) ⟨L.length + 1, tp_ycount27 hY L [] (L.length + 1) 0 rfl (by omega) ⟨rfl, J⟩⟩)))
      · exact tp_ycl_t (by omega) (br_f (by decide) (tp_yin_t (nI_pos (by omega)) (nI_nlt (a := 288) hw288 (by decide)) (br_f (by decide) ⟨L.length + 1, tp_ycount27 hY L [] (L.length + 1) 0 rfl (by omega) ⟨tp_cn_0 L 0 hz, J⟩⟩)))
    · exact tp_xcl_t (by omega) (br_f (by decide) (tp_xte_f hb (br_t rfl (tp_ycl_t (by omega) (br_f (by decide) (tp_yin_f hb (br_t rfl ⟨rfl, J⟩)))))))
  · exact tp_xcl_f hb (br_t rfl (tp_ycl_f hb (br_t rfl ⟨rfl, J⟩)))
theorem i_vc_seen {k : Nat} {u : SX} {v : SY} (I : i_Rel k u v) (hk : k + 4 ≤ 2048) (v1 : Int32) (v2 : Int32) (v3 : Int32) : wpX_seen (fun r => wpY_seen (fun r' => r' = r ∧ i_Rel (k + 4) u v) v v1 v2 v3) u v1 v2 v3 := by
  have J := i_up I
  obtain ⟨L, Q, t, lv, tr, lg, tu, en, ow, ta, mk, wf, wk, wt, qu, tu2, en2, ow2, ta2, mk2, wo, hw, wa, rfl, rfl, hX, hY, hQ, hQY, hK, hO, ht⟩ := I
  unfold wpX_seen wpY_seen
  dsimp only
  rcases tp_rg v1 3 (by decide) with ⟨c, hc, rfl⟩ | hb
  · rcases tp_rg v2 288 (by decide) with ⟨w, hw288, rfl⟩ | hb
    · refine tp_xcl_t (by omega) (br_f (by decide) (tp_xte_t hw288 (br_f (by decide) (tp_xstop hw288 hX ⟨L.length + 1, ?_⟩ (fun hz => ⟨1, br_t (Int32.le_refl _) ?_⟩)))))
      · refine tp_xseen29 hX.1 L [] (L.length + 1) 0 rfl (by omega) ?_
        exact tp_ycl_t (by omega) (br_f (by decide) (tp_yin_t (nI_pos (by omega)) (nI_nlt (a := 288) hw288 (by decide)) (br_f (by decide) ⟨L.length + 1, tp_yseen28 hY L [] (L.length + 1) 0 rfl (by omega) ⟨rfl, J⟩⟩)))
      · exact tp_ycl_t (by omega) (br_f (by decide) (tp_yin_t (nI_pos (by omega)) (nI_nlt (a := 288) hw288 (by decide)) (br_f (by decide) ⟨L.length + 1, tp_yseen28 hY L [] (L.length + 1) 0 rfl (by omega) ⟨tp_sn_0 L 0 hz, J⟩⟩)))
    · exact tp_xcl_t (by omega) (br_f (by decide) (tp_xte_f hb (br_t rfl (tp_ycl_t (by omega) (br_f (by decide) (tp_yin_f hb (br_t rfl ⟨rfl, J⟩)))))))
  · exact tp_xcl_f hb (br_t rfl (tp_ycl_f hb (br_t rfl ⟨rfl, J⟩)))
theorem i_vc_put {k : Nat} {u : SX} {v : SY} (I : i_Rel k u v) (hk : k + 4 ≤ 2048) (v1 : Int32) (v2 : Int32) (v3 : Int32) : wpX_put (fun r u' => wpY_put (fun r' v' => r' = r ∧ i_Rel (k + 4) u' v') v v1 v2 v3) u v1 v2 v3 := by
  have J := i_up I
  obtain ⟨L, Q, t, lv, tr, lg, tu, en, ow, ta, mk, wf, wk, wt, qu, tu2, en2, ow2, ta2, mk2, wo, hw, wa, rfl, rfl, hX, hY, hQ, hQY, hK, hO, ht⟩ := I
  unfold wpX_put wpY_put
  dsimp only
  rcases tp_rg v1 3 (by decide) with ⟨c, hc, rfl⟩ | hb
  · have hc4 : c < 4 := by omega
    have vc : vp_in (nI c) 4 := vp_in_nI hc4 (by omega)
    have cc : (nI c).toNatClampNeg = c := nI_clamp (by omega)
    rcases tp_rg v2 255 (by decide) with ⟨j, hj, rfl⟩ | hb
    · have b1 : ¬ nI j < 0 := nI_pos (by omega)
      have b2 : ¬ (255 : Int32) < nI j := nI_nlt (a := 255) hj (by decide)
      rcases tp_rg v3 100 (by decide) with ⟨l, hl, rfl⟩ | hb
      · have b3 : ¬ nI l < 0 := nI_pos (by omega)
        have b4 : ¬ (100 : Int32) < nI l := nI_nlt (a := 100) hl (by decide)
        rw [cc]
        refine tp_xcl_t hc4 (br_f (by decide) (br_f b1 (br_f b2 (br_f b3 (br_t (nI_le (b := 100) hl (by decide)) ⟨vc, ?_⟩)))))
        rcases tp_dec hK hO hc4 with ⟨z, hn⟩ | ⟨z, K, q, R, rfl, rfl⟩
        · refine br_t z ?_
          have h20 := hX.1.1
          by_cases hl20 : L.length < 20
          · have hok : tp_ok (tp_new (tr c) (nI t) (nI c) (nI j) (nI l)) := tp_ok_new (by omega) (by omega) hc4
            have v0 : vp_in (nI L.length) 20 := vp_in_nI hl20 (by omega)
            have c0 : (nI L.length).toNatClampNeg = L.length := nI_clamp (by omega)
            have n20 : ¬ nI L.length = 20 := fun y => by
              have := (nI_eq (a := L.length) (b := 20) (by omega) (by omega)).mp y
              omega
            refine br_t (nI_lt (b := 20) hl20 (by decide)) (tp_xadd hc4 (by omega) hl20 hok hX (fun tu' en' ow' ta' mk' wf' hX' => tp_xserve hX' hQ hO hK (fun tu'' en'' ow'' ta'' mk'' wf'' wk'' qu'' hX'' hQ'' hK'' => ?_)))
            refine tp_ycl_t hc4 (br_f (by decide) (tp_yin_t b1 b2 (br_f (by decide) (tp_yin_t b3 b4 (br_f (by decide) (tp_yq_no hQY hO hc4 hn (br_t (by decide) (br_f n20 ⟨v0, nm_r (by rw [c0]) ?_⟩))))))))
            exact br_c (fun y => tp_yput88 hc4 hl20 hok (by rw [if_pos y]) hY hQY hO (fun _ _ _ _ _ _ _ _ hY' hQY' => ⟨rfl, tp_rel hX'' hY' hQ'' hQY' hK'' (tp_sv_QO hO) (by omega)⟩))
              (fun y => tp_yput88 hc4 hl20 hok (by rw [if_neg y]) hY hQY hO (fun _ _ _ _ _ _ _ _ hY' hQY' => ⟨rfl, tp_rel hX'' hY' hQ'' hQY' hK'' (tp_sv_QO hO) (by omega)⟩))
          · have e20 : L.length = 20 := by omega
            have n20 : nI L.length = 20 := by rw [e20]; rfl
            exact br_f (nI_nlt (b := 20) (by omega) (by omega)) (tp_ycl_t hc4 (br_f (by decide) (tp_yin_t b1 b2 (br_f (by decide) (tp_yin_t b3 b4 (br_f (by decide) (tp_yq_no hQY hO hc4 hn (br_t (by decide) (br_t n20 ⟨rfl, J⟩)))))))))
        · have h4 := tp_Q4 hO
          rw [List.length_append] at h4
          exact br_f z (tp_ycl_t hc4 (br_f (by decide) (tp_yin_t b1 b2 (br_f (by decide) (tp_yin_t b3 b4 (br_f (by decide) (tp_yq_yes hQY hO (br_f (nI_pos (by omega)) ⟨rfl, J⟩))))))))
      · refine tp_xcl_t hc4 (br_f (by decide) (br_f b1 (br_f b2 (br_c (fun _ => ?_) (fun z => br_f (fun y => hb.elim z (Int32.not_lt.mpr y)) ?_)))))
        · exact tp_ycl_t hc4 (br_f (by decide) (tp_yin_t b1 b2 (br_f (by decide) (tp_yin_f hb (br_t rfl ⟨rfl, J⟩)))))
        · exact tp_ycl_t hc4 (br_f (by decide) (tp_yin_t b1 b2 (br_f (by decide) (tp_yin_f hb (br_t rfl ⟨rfl, J⟩)))))
    · refine tp_xcl_t hc4 (br_f (by decide) (br_c (fun _ => ?_) (fun z => br_t (hb.elim (fun y => absurd y z) id) ?_)))
      · exact tp_ycl_t hc4 (br_f (by decide) (tp_yin_f hb (br_t rfl ⟨rfl, J⟩)))
      · exact tp_ycl_t hc4 (br_f (by decide) (tp_yin_f hb (br_t rfl ⟨rfl, J⟩)))
  · exact tp_xcl_f hb (br_t rfl (tp_ycl_f hb (br_t rfl ⟨rfl, J⟩)))
theorem i_vc_ask {k : Nat} {u : SX} {v : SY} (I : i_Rel k u v) (hk : k + 4 ≤ 2048) (v1 : Int32) (v2 : Int32) (v3 : Int32) : wpX_ask (fun r u' => wpY_ask (fun r' v' => r' = r ∧ i_Rel (k + 4) u' v') v v1 v2 v3) u v1 v2 v3 := by
  have J := i_up I
  obtain ⟨L, Q, t, lv, tr, lg, tu, en, ow, ta, mk, wf, wk, wt, qu, tu2, en2, ow2, ta2, mk2, wo, hw, wa, rfl, rfl, hX, hY, hQ, hQY, hK, hO, ht⟩ := I
  unfold wpX_ask wpY_ask
  dsimp only
  rcases tp_rg v1 3 (by decide) with ⟨c, hc, rfl⟩ | hb
  · have hc4 : c < 4 := by omega
    have vc : vp_in (nI c) 4 := vp_in_nI hc4 (by omega)
    have cc : (nI c).toNatClampNeg = c := nI_clamp (by omega)
    rcases tp_rg v2 3 (by decide) with ⟨h, hh, rfl⟩ | hb
    · have b1 : ¬ nI h < 0 := nI_pos (by omega)
      have b2 : ¬ (3 : Int32) < nI h := nI_nlt (a := 3) hh (by decide)
      rcases tp_rg v3 288 (by decide) with ⟨w, hw288, rfl⟩ | hb
      · have b3 : ¬ nI w < 0 := nI_pos (by omega)
        have b4 : ¬ (288 : Int32) < nI w := nI_nlt (a := 288) hw288 (by decide)
        rw [cc]
        refine tp_xcl_t hc4 (br_f (by decide) (br_f b1 (br_f b2 (tp_xte_t hw288 (br_f (by decide) ⟨vc, ?_⟩)))))
        rcases tp_dec hK hO hc4 with ⟨z, hn⟩ | ⟨z, K, q, R, rfl, rfl⟩
        · refine br_t z ⟨by decide, ?_⟩
          by_cases hp : nI h - nI h / 2 * 2 = 0
          · have hp1 : ¬ nI h - nI h / 2 * 2 = 1 := by rw [hp]; decide
            have hkw : h < 2 → (1 : Int32) = nI (h + 1) := fun h2 => by
              obtain rfl | rfl : h = 0 ∨ h = 1 := by omega
              · rfl
              · exact absurd hp (by decide)
            refine br_t hp ?_
            have Y : ∀ (r : Int32) (u' : SX),
                (∀ a L', tp_gv false (tr c) (nI c) (nI w) L = some (a, L') → ∀ tu' en' ow' ta' mk' : Nat → Int32, tp_Y L' tu' en' ow' ta' mk' → a = r ∧ i_Rel (k + 4) u' (nI t, nI L'.length, nI Q.length, tu', en', ow', ta', mk', tr, upd lg c a, wo, hw, wa)) →
                (tp_gv false (tr c) (nI c) (nI w) L = none → 2 ≤ h → -4 = r ∧ i_Rel (k + 4) u' (nI t, nI L.length, nI Q.length, tu2, en2, ow2, ta2, mk2, tr, lg, wo, hw, wa)) →
                (tp_gv false (tr c) (nI c) (nI w) L = none → h < 2 → ∀ wo' hw' wa' : Nat → Int32, tp_QY (Q ++ [(c, h, w)]) wo' hw' wa' → -4 = r ∧ i_Rel (k + 4) u' (nI t, nI L.length, nI (Q ++ [(c, h, w)]).length, tu2, en2, ow2, ta2, mk2, tr, lg, wo', hw', wa')) →
                wY_ask_57 (fun r' v' => r' = r ∧ i_Rel (k + 4) u' v') (nI c) (nI h) (nI w) 0 (nI c) (nI t) (nI L.length) (nI Q.length) tu2 en2 ow2 ta2 mk2 tr lg wo hw wa :=
              fun r u' y1 y2 y3 => tp_yask57 (tk := false) rfl hh hc4 hY hQY hO hn y1 y2 y3
            refine tp_xask48 (tk := false) rfl hh hkw hc4 hw288 hX hQ hO hK hn ?_ ?_ ?_
            · intro a L' hs tu' en' ow' ta' mk' wf' hX'
              refine tp_ycl_t hc4 (br_f (by decide) (tp_yin_t b1 b2 (br_f (by decide) (tp_yin_t b3 b4 (br_f (by decide) (tp_yq_no hQY hO hc4 hn (br_t (by decide) ⟨by decide, br_f hp1 (Y _ _ ?_ ?_ ?_)⟩)))))))
              · intro a2 L2 hs2 tu'' en'' ow'' ta'' mk'' hY'
                rw [hs] at hs2
                injection hs2 with hs2
                injection hs2 with e1 e2
                subst e1 e2
                exact ⟨rfl, tp_rel hX' hY' hQ hQY hK hO (by omega)⟩
              · intro hg; rw [hs] at hg; exact absurd hg (by simp)
              · intro hg; rw [hs] at hg; exact absurd hg (by simp)
            · intro hg h2
              refine tp_ycl_t hc4 (br_f (by decide) (tp_yin_t b1 b2 (br_f (by decide) (tp_yin_t b3 b4 (br_f (by decide) (tp_yq_no hQY hO hc4 hn (br_t (by decide) ⟨by decide, br_f hp1 (Y _ _ ?_ ?_ ?_)⟩)))))))
              · intro a2 L2 hs2; rw [hg] at hs2; exact absurd hs2 (by simp)
              · intro _ _; exact ⟨rfl, J⟩
              · intro _ h3; omega
            · intro hg h2 wk' wt' qu' hQ' hK'
              refine tp_ycl_t hc4 (br_f (by decide) (tp_yin_t b1 b2 (br_f (by decide) (tp_yin_t b3 b4 (br_f (by decide) (tp_yq_no hQY hO hc4 hn (br_t (by decide) ⟨by decide, br_f hp1 (Y _ _ ?_ ?_ ?_)⟩)))))))
              · intro a2 L2 hs2; rw [hg] at hs2; exact absurd hs2 (by simp)
              · intro _ h3; omega
              · intro _ _ wo' hw' wa' hQY'; exact ⟨rfl, tp_rel hX hY hQ' hQY' hK' (tp_QO_add hO hc4 h2 hw288 hn) (by omega)⟩
          · have hp1 : nI h - nI h / 2 * 2 = 1 := by
              obtain rfl | rfl | rfl | rfl : h = 0 ∨ h = 1 ∨ h = 2 ∨ h = 3 := by omega
              · exact absurd (by decide) hp
              · decide
              · exact absurd (by decide) hp
              · decide
            have hkw : h < 2 → (2 : Int32) = nI (h + 1) := fun h2 => by
              obtain rfl | rfl : h = 0 ∨ h = 1 := by omega
              · exact absurd (by decide) hp
              · rfl
            refine br_f hp ?_
            have Y : ∀ (r : Int32) (u' : SX),
                (∀ a L', tp_gv true (tr c) (nI c) (nI w) L = some (a, L') → ∀ tu' en' ow' ta' mk' : Nat → Int32, tp_Y L' tu' en' ow' ta' mk' → a = r ∧ i_Rel (k + 4) u' (nI t, nI L'.length, nI Q.length, tu', en', ow', ta', mk', tr, upd lg c a, wo, hw, wa)) →
                (tp_gv true (tr c) (nI c) (nI w) L = none → 2 ≤ h → -4 = r ∧ i_Rel (k + 4) u' (nI t, nI L.length, nI Q.length, tu2, en2, ow2, ta2, mk2, tr, lg, wo, hw, wa)) →
                (tp_gv true (tr c) (nI c) (nI w) L = none → h < 2 → ∀ wo' hw' wa' : Nat → Int32, tp_QY (Q ++ [(c, h, w)]) wo' hw' wa' → -4 = r ∧ i_Rel (k + 4) u' (nI t, nI L.length, nI (Q ++ [(c, h, w)]).length, tu2, en2, ow2, ta2, mk2, tr, lg, wo', hw', wa')) →
                wY_ask_57 (fun r' v' => r' = r ∧ i_Rel (k + 4) u' v') (nI c) (nI h) (nI w) 1 (nI c) (nI t) (nI L.length) (nI Q.length) tu2 en2 ow2 ta2 mk2 tr lg wo hw wa :=
              fun r u' y1 y2 y3 => tp_yask57 (tk := true) rfl hh hc4 hY hQY hO hn y1 y2 y3
            refine tp_xask48 (tk := true) rfl hh hkw hc4 hw288 hX hQ hO hK hn ?_ ?_ ?_
            · intro a L' hs tu' en' ow' ta' mk' wf' hX'
              refine tp_ycl_t hc4 (br_f (by decide) (tp_yin_t b1 b2 (br_f (by decide) (tp_yin_t b3 b4 (br_f (by decide) (tp_yq_no hQY hO hc4 hn (br_t (by decide) ⟨by decide, br_t hp1 (Y _ _ ?_ ?_ ?_)⟩)))))))
              · intro a2 L2 hs2 tu'' en'' ow'' ta'' mk'' hY'
                rw [hs] at hs2
                injection hs2 with hs2
                injection hs2 with e1 e2
                subst e1 e2
                exact ⟨rfl, tp_rel hX' hY' hQ hQY hK hO (by omega)⟩
              · intro hg; rw [hs] at hg; exact absurd hg (by simp)
              · intro hg; rw [hs] at hg; exact absurd hg (by simp)
            · intro hg h2
              refine tp_ycl_t hc4 (br_f (by decide) (tp_yin_t b1 b2 (br_f (by decide) (tp_yin_t b3 b4 (br_f (by decide) (tp_yq_no hQY hO hc4 hn (br_t (by decide) ⟨by decide, br_t hp1 (Y _ _ ?_ ?_ ?_)⟩)))))))
              · intro a2 L2 hs2; rw [hg] at hs2; exact absurd hs2 (by simp)
              · intro _ _; exact ⟨rfl, J⟩
              · intro _ h3; omega
            · intro hg h2 wk' wt' qu' hQ' hK'
              refine tp_ycl_t hc4 (br_f (by decide) (tp_yin_t b1 b2 (br_f (by decide) (tp_yin_t b3 b4 (br_f (by decide) (tp_yq_no hQY hO hc4 hn (br_t (by decide) ⟨by decide, br_t hp1 (Y _ _ ?_ ?_ ?_)⟩)))))))
              · intro a2 L2 hs2; rw [hg] at hs2; exact absurd hs2 (by simp)
              · intro _ h3; omega
              · intro _ _ wo' hw' wa' hQY'; exact ⟨rfl, tp_rel hX hY hQ' hQY' hK' (tp_QO_add hO hc4 h2 hw288 hn) (by omega)⟩
        · have h4 := tp_Q4 hO
          rw [List.length_append] at h4
          exact br_f z (tp_ycl_t hc4 (br_f (by decide) (tp_yin_t b1 b2 (br_f (by decide) (tp_yin_t b3 b4 (br_f (by decide) (tp_yq_yes hQY hO (br_f (nI_pos (by omega)) ⟨rfl, J⟩))))))))
      · exact tp_xcl_t hc4 (br_f (by decide) (br_f b1 (br_f b2 (tp_xte_f hb (br_t rfl (tp_ycl_t hc4 (br_f (by decide) (tp_yin_t b1 b2 (br_f (by decide) (tp_yin_f hb (br_t rfl ⟨rfl, J⟩)))))))))))
    · refine tp_xcl_t hc4 (br_f (by decide) (br_c (fun _ => ?_) (fun z => br_t (hb.elim (fun y => absurd y z) id) ?_)))
      · exact tp_ycl_t hc4 (br_f (by decide) (tp_yin_f hb (br_t rfl ⟨rfl, J⟩)))
      · exact tp_ycl_t hc4 (br_f (by decide) (tp_yin_f hb (br_t rfl ⟨rfl, J⟩)))
  · exact tp_xcl_f hb (br_t rfl (tp_ycl_f hb (br_t rfl ⟨rfl, J⟩)))
theorem tp_one1 {x : Int32} (h : x = 1) : ¬ x = 0 := by rw [h]; decide
theorem i_vc_commit {k : Nat} {u : SX} {v : SY} (I : i_Rel k u v) (hk : k + 4 ≤ 2048) (v1 : Int32) : wpX_commit (fun r u' => wpY_commit (fun r' v' => r' = r ∧ i_Rel (k + 4) u' v') v v1) u v1 := by
  have J := i_up I
  obtain ⟨L, Q, t, lv, tr, lg, tu, en, ow, ta, mk, wf, wk, wt, qu, tu2, en2, ow2, ta2, mk2, wo, hw, wa, rfl, rfl, hX, hY, hQ, hQY, hK, hO, ht⟩ := I
  unfold wpX_commit wpY_commit wpX_canEndTransaction wpY_finish
  dsimp only
  rcases tp_rg v1 3 (by decide) with ⟨c, hc, rfl⟩ | hb
  · have hc4 : c < 4 := by omega
    have vc : vp_in (nI c) 4 := vp_in_nI hc4 (by omega)
    have cc : (nI c).toNatClampNeg = c := nI_clamp (by omega)
    rw [cc]
    refine tp_xcl_t hc4 (br_f (by decide) ⟨vc, ?_⟩)
    rcases tp_dec hK hO hc4 with ⟨z, hn⟩ | ⟨z, K, q, R, rfl, rfl⟩
    · refine br_t z ⟨vc, br_c (fun y => br_t rfl ?_) (fun y => br_f (by decide) ?_)⟩
      · exact tp_ycl_t hc4 (br_f (by decide) (tp_yq_no hQY hO hc4 hn (br_f (by decide) ⟨vc, br_t y ⟨rfl, rfl, J⟩⟩)))
      · refine tp_xrt hX (fun tu' en' ow' ta' mk' wf' hX' => ⟨(L.filter (fun e => decide (e.2.2.2.1 ≠ nI c))).length + 1, ?_⟩)
        refine tp_xcommit17 hc4 hQ hO hK (L.filter (fun e => decide (e.2.2.2.1 ≠ nI c))) [] ((L.filter (fun e => decide (e.2.2.2.1 ≠ nI c))).length + 1) _ (by omega) hX' ?_
        rw [List.nil_append, tp_cc]
        intro tu'' en'' ow'' ta'' mk'' wf'' wk'' qu'' hX'' hQ'' hK''
        refine tp_ycl_t hc4 (br_f (by decide) (tp_yq_no hQY hO hc4 hn (br_f (by decide) ⟨vc, br_f y ⟨vc, nm_e (nm_e ⟨L.length + 1, ?_⟩)⟩⟩)))
        refine tp_yfin (kp := true) rfl hQY hO hY ?_
        rw [tp_st_t]
        exact fun _ _ _ _ _ _ _ _ hY' hQY' => ⟨rfl, rfl, tp_rel hX'' hY' hQ'' hQY' hK'' (tp_sv_QO hO) (by omega)⟩
    · have h4 := tp_Q4 hO
      rw [List.length_append] at h4
      exact br_f z (br_t rfl (tp_ycl_t hc4 (br_f (by decide) (tp_yq_yes hQY hO (br_t (nI_pos' (by omega)) ⟨rfl, rfl, J⟩)))))
  · exact tp_xcl_f hb (br_t rfl (br_t rfl (tp_ycl_f hb (br_t rfl ⟨rfl, rfl, J⟩))))
theorem i_vc_abort {k : Nat} {u : SX} {v : SY} (I : i_Rel k u v) (hk : k + 4 ≤ 2048) (v1 : Int32) : wpX_abort (fun r u' => wpY_abort (fun r' v' => r' = r ∧ i_Rel (k + 4) u' v') v v1) u v1 := by
  have J := i_up I
  obtain ⟨L, Q, t, lv, tr, lg, tu, en, ow, ta, mk, wf, wk, wt, qu, tu2, en2, ow2, ta2, mk2, wo, hw, wa, rfl, rfl, hX, hY, hQ, hQY, hK, hO, ht⟩ := I
  unfold wpX_abort wpY_abort wpX_canEndTransaction wpY_finish
  dsimp only
  rcases tp_rg v1 3 (by decide) with ⟨c, hc, rfl⟩ | hb
  · have hc4 : c < 4 := by omega
    have vc : vp_in (nI c) 4 := vp_in_nI hc4 (by omega)
    have cc : (nI c).toNatClampNeg = c := nI_clamp (by omega)
    rw [cc]
    refine tp_xcl_t hc4 (br_f (by decide) ⟨vc, ?_⟩)
    rcases tp_dec hK hO hc4 with ⟨z, hn⟩ | ⟨z, K, q, R, rfl, rfl⟩
    · refine br_t z ⟨vc, br_c (fun y => br_t rfl ?_) (fun y => br_f (by decide) ?_)⟩
      · exact tp_ycl_t hc4 (br_f (by decide) (tp_yq_no hQY hO hc4 hn (br_f (by decide) ⟨vc, br_t y ⟨rfl, rfl, J⟩⟩)))
      · refine tp_xro hX (fun tu' en' ow' ta' mk' wf' hX' => ⟨(L.filter (fun e => decide (e.2.2.1 ≠ nI c))).length + 1, ?_⟩)
        refine tp_xabort17 hc4 hQ hO hK (L.filter (fun e => decide (e.2.2.1 ≠ nI c))) [] ((L.filter (fun e => decide (e.2.2.1 ≠ nI c))).length + 1) _ (by omega) hX' ?_
        rw [List.nil_append, tp_ca]
        intro tu'' en'' ow'' ta'' mk'' wf'' wk'' qu'' hX'' hQ'' hK''
        refine tp_ycl_t hc4 (br_f (by decide) (tp_yq_no hQY hO hc4 hn (br_f (by decide) ⟨vc, br_f y ⟨vc, nm_e (nm_e ⟨L.length + 1, ?_⟩)⟩⟩)))
        refine tp_yfin (kp := false) rfl hQY hO hY ?_
        rw [tp_st_f]
        exact fun _ _ _ _ _ _ _ _ hY' hQY' => ⟨rfl, rfl, tp_rel hX'' hY' hQ'' hQY' hK'' (tp_sv_QO hO) (by omega)⟩
    · have h4 := tp_Q4 hO
      rw [List.length_append] at h4
      exact br_f z (br_t rfl (tp_ycl_t hc4 (br_f (by decide) (tp_yq_yes hQY hO (br_t (nI_pos' (by omega)) ⟨rfl, rfl, J⟩)))))
  · exact tp_xcl_f hb (br_t rfl (br_t rfl (tp_ycl_f hb (br_t rfl ⟨rfl, rfl, J⟩))))
theorem i_vc_pass {k : Nat} {u : SX} {v : SY} (I : i_Rel k u v) (hk : k + 4 ≤ 2048) (v1 : Int32) : wpX_pass (fun r u' => wpY_pass (fun r' v' => r' = r ∧ i_Rel (k + 4) u' v') v v1) u v1 := by
  have J := i_up I
  obtain ⟨L, Q, t, lv, tr, lg, tu, en, ow, ta, mk, wf, wk, wt, qu, tu2, en2, ow2, ta2, mk2, wo, hw, wa, rfl, rfl, hX, hY, hQ, hQY, hK, hO, ht⟩ := I
  unfold wpX_pass wpY_pass
  dsimp only
  rcases tp_rg v1 50 (by decide) with ⟨p, hp, rfl⟩ | hb
  · have b1 : ¬ nI p < 0 := nI_pos (by omega)
    have b2 : ¬ (50 : Int32) < nI p := nI_nlt (a := 50) hp (by decide)
    have h20 := hX.1.1
    refine br_f b1 (br_t (nI_le (b := 50) hp (by decide)) (nm_r (nI_add t p) (tp_xre hX (fun tu' en' ow' ta' mk' wf' hX' => tp_xserve hX' hQ hO hK (fun tu'' en'' ow'' ta'' mk'' wf'' wk'' qu'' hX'' hQ'' hK'' => ?_)))))
    have hle := List.length_filter_le (tp_nd (nI (t + p))) L
    have kY := tp_ypass35 (post := fun r' v' => r' = nI (L.length - (L.filter (tp_nd (nI (t + p)))).length) ∧ i_Rel (k + 4) (nI (tp_sv tr Q (L.filter (tp_nd (nI (t + p)))) lg).2.1.length, lv, nI (tp_sv tr Q (L.filter (tp_nd (nI (t + p)))) lg).1.length, nI (t + p), tu'', en'', ow'', ta'', mk'', wf'', tr, (tp_sv tr Q (L.filter (tp_nd (nI (t + p)))) lg).2.2, wk'', wt, qu'') v') (tm := nI (t + p)) (tr := tr) (lg := lg) (N := L.length) h20 hQY hO L.length L [] (L.length + 1) _ tu2 en2 ow2 ta2 mk2 rfl rfl (by omega) (by rw [List.append_nil]; exact hY) (by rw [List.append_nil]; exact hle)
      (by
        rw [List.append_nil]
        exact fun _ _ _ _ _ _ _ _ hY' hQY' => ⟨rfl, tp_rel hX'' hY' hQ'' hQY' hK'' (tp_sv_QO hO) (by omega)⟩)
    rw [List.append_nil] at kY
    exact tp_yin_t b1 b2 (br_f (by decide) (nm_r (nI_add t p) (nm_e ⟨L.length + 1, kY⟩)))
  · refine br_c (fun _ => ?_) (fun z => br_f (fun y => hb.elim z (Int32.not_lt.mpr y)) ?_)
    · exact tp_yin_f hb (br_t rfl ⟨rfl, J⟩)
    · exact tp_yin_f hb (br_t rfl ⟨rfl, J⟩)
