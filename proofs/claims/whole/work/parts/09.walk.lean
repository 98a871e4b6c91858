section
variable {n lv ql tm wn : Int32} {tu en ow ta mk wf tr lg wk wt qu wo hw wa : Nat → Int32}
/-! arguments -/
theorem tp_rg (x : Int32) (N : Nat) (hN : N < 2 ^ 31) : (∃ j : Nat, j ≤ N ∧ x = nI j) ∨ (x < 0 ∨ nI N < x) := by
  by_cases h : x < 0
  · exact Or.inr (Or.inl h)
  · obtain ⟨j, hj, rfl⟩ := nI_of h
    by_cases hl : j ≤ N
    · exact Or.inl ⟨j, hl, rfl⟩
    · exact Or.inr (Or.inr (nI_lt (by omega) hj))
theorem tp_34 {x : Int32} (h : (3 : Int32) < x) : (4 : Int32) ≤ x := by
  rw [Int32.lt_iff_toInt_lt, show (3 : Int32).toInt = 3 by decide] at h
  rw [Int32.le_iff_toInt_le, show (4 : Int32).toInt = 4 by decide]
  omega
theorem tp_xcl_t {post : Int32 → Prop} {c : Nat} (hc : c < 4) (h : post 1) : wpX_isClient post (nI c) := by
  unfold wpX_isClient
  exact br_f (nI_pos (by omega)) (br_f (nI_ge (b := 4) hc (by decide)) h)
theorem tp_xcl_f {post : Int32 → Prop} {x : Int32} (hx : x < 0 ∨ (3 : Int32) < x) (h : post 0) : wpX_isClient post x := by
  unfold wpX_isClient
  exact br_c (fun _ => h) (fun z => br_t (hx.elim (fun y => absurd y z) tp_34) h)
theorem tp_xte_t {post : Int32 → Prop} {w : Nat} (hw : w ≤ 288) (h : post 1) : wpX_isTemplate post (nI w) := by
  unfold wpX_isTemplate
  exact br_f (nI_pos (by omega)) (br_f (nI_nlt (a := 288) hw (by decide)) h)
theorem tp_xte_f {post : Int32 → Prop} {x : Int32} (hx : x < 0 ∨ (288 : Int32) < x) (h : post 0) : wpX_isTemplate post x := by
  unfold wpX_isTemplate
  exact br_c (fun _ => h) (fun z => br_t (hx.elim (fun y => absurd y z) id) h)
theorem tp_yin_t {post : Int32 → Prop} {x lo hi : Int32} (h1 : ¬ x < lo) (h2 : ¬ hi < x) (h : post 1) : wpY_in post (tm, n, wn, tu, en, ow, ta, mk, tr, lg, wo, hw, wa) x lo hi := by
  unfold wpY_in
  exact br_f h1 (br_f h2 h)
theorem tp_yin_f {post : Int32 → Prop} {x lo hi : Int32} (hx : x < lo ∨ hi < x) (h : post 0) : wpY_in post (tm, n, wn, tu, en, ow, ta, mk, tr, lg, wo, hw, wa) x lo hi := by
  unfold wpY_in
  exact br_c (fun _ => h) (fun z => br_t (hx.elim (fun y => absurd y z) id) h)
theorem tp_ycl_t {post : Int32 → Prop} {c : Nat} (hc : c < 4) (h : post 1) : wpY_isClient post (tm, n, wn, tu, en, ow, ta, mk, tr, lg, wo, hw, wa) (nI c) := by
  unfold wpY_isClient
  exact tp_yin_t (nI_pos (by omega)) (nI_nlt (a := 3) (by omega) (by decide)) ⟨rfl, h⟩
theorem tp_ycl_f {post : Int32 → Prop} {x : Int32} (hx : x < 0 ∨ (3 : Int32) < x) (h : post 0) : wpY_isClient post (tm, n, wn, tu, en, ow, ta, mk, tr, lg, wo, hw, wa) x := by
  unfold wpY_isClient
  exact tp_yin_f hx ⟨rfl, h⟩
/-! put -/
def tp_new (b tm c tup life : Int32) : tp_E := (tup, if life = 0 then -1 else tm + life, if b = 0 then -1 else c, -1, 0)
theorem tp_ok_new {b : Int32} {t j l c : Nat} (hj : j < 256) (ht : t + l < 2 ^ 31) (hc : c < 4) : tp_ok (tp_new b (nI t) (nI c) (nI j) (nI l)) := by
  refine ⟨⟨j, hj, rfl⟩, ?_, ?_, Or.inl rfl⟩
  · show (if nI l = 0 then -1 else nI t + nI l) = -1 ∨ 0 ≤ (if nI l = 0 then -1 else nI t + nI l)
    by_cases z : nI l = 0
    · rw [if_pos z]; exact Or.inl rfl
    · rw [if_neg z, nI_add]; exact Or.inr (nI_pos' ht)
  · show (if b = 0 then -1 else nI c) = -1 ∨ 0 ≤ (if b = 0 then -1 else nI c)
    by_cases z : b = 0
    · rw [if_pos z]; exact Or.inl rfl
    · rw [if_neg z]; exact Or.inr (nI_pos' (by omega))
theorem tp_xadd {post : SX → Prop} {L : List tp_E} {c j : Nat} {life : Int32} (hc : c < 4) (hj : j < 256) (hl : L.length < 20) (hok : tp_ok (tp_new (tr c) tm (nI c) (nI j) life)) (h : tp_X L tu en ow ta mk wf)
    (k : ∀ tu' en' ow' ta' mk' wf' : Nat → Int32, tp_X (L ++ [tp_new (tr c) tm (nI c) (nI j) life]) tu' en' ow' ta' mk' wf' → post (nI (L ++ [tp_new (tr c) tm (nI c) (nI j) life]).length, lv, ql, tm, tu', en', ow', ta', mk', wf', tr, lg, wk, wt, qu)) :
    wpX_addEntry post (nI L.length, lv, ql, tm, tu, en, ow, ta, mk, wf, tr, lg, wk, wt, qu) (nI c) (nI j) life := by
  obtain ⟨⟨h20, hA, hoks⟩, hW⟩ := h
  have v0 : vp_in (nI L.length) 20 := vp_in_nI hl (by omega)
  have c0 : (nI L.length).toNatClampNeg = L.length := nI_clamp (by omega)
  have vc : vp_in (nI c) 4 := vp_in_nI hc (by omega)
  have cc : (nI c).toNatClampNeg = c := nI_clamp (by omega)
  have hd : nI j / 16 = nI (j / 16) := by rw [tp_16, pk_div (by omega) (by omega) (by omega)]
  have hg : j / 16 < 16 := by omega
  have vg : vp_in (nI (j / 16)) 16 := vp_in_nI hg (by omega)
  have cg : (nI (j / 16)).toNatClampNeg = j / 16 := nI_clamp (by omega)
  have hl1 : nI L.length + 1 = nI (L ++ [tp_new (tr c) tm (nI c) (nI j) life]).length := by rw [nI_1]; simp
  have F : ∀ ze zo : Int32, ze = (if life = 0 then -1 else tm + life) → zo = (if tr c = 0 then -1 else nI c) →
      wX_addEntry_55 post (nI j) zo (nI L.length) (nI L.length) lv ql tm (upd tu L.length (nI j)) (upd en L.length ze) ow ta mk wf tr lg wk wt qu := by
    intro ze zo he ho
    unfold wX_addEntry_55
    rw [hd, c0, cg]
    refine ⟨v0, nm_e ⟨v0, nm_e ⟨v0, nm_e (nm_r hl1 ⟨by decide, vg, vg, nm_e (k _ _ _ _ _ _ ⟨⟨by rw [List.length_append, List.length_singleton]; omega, ?_, ?_⟩, tp_W_add hW hg hd⟩)⟩)⟩⟩⟩
    · exact tp_A_add _ hA ⟨pk_us, pk_us.trans he, pk_us.trans ho, pk_us, pk_us⟩ (fun i hi => ⟨pk_un hi, pk_un hi, pk_un hi, pk_un hi, pk_un hi⟩)
    · intro e he
      rw [List.mem_append, List.mem_singleton] at he
      rcases he with he | he
      · exact hoks e he
      · rw [he]; exact hok
  have G : ∀ ze : Int32, ze = (if life = 0 then -1 else tm + life) → wX_addEntry_32 post (nI c) (nI j) ze (nI L.length) (nI L.length) lv ql tm (upd tu L.length (nI j)) en ow ta mk wf tr lg wk wt qu := by
    intro ze he
    unfold wX_addEntry_32
    rw [c0, cc]
    exact ⟨v0, nm_e ⟨vc, br_c (fun z => F _ _ he (by rw [if_pos z])) (fun z => F _ _ he (by rw [if_neg z]))⟩⟩
  unfold wpX_addEntry
  dsimp only
  rw [c0]
  exact ⟨v0, nm_e (br_c (fun z => G _ (by rw [if_pos z])) (fun z => G _ (by rw [if_neg z])))⟩
theorem tp_yput88 {post : Int32 → SY → Prop} {L : List tp_E} {Q : List tp_T} {c j : Nat} {life ze : Int32} (hc : c < 4) (hl : L.length < 20) (hok : tp_ok (tp_new (tr c) tm (nI c) (nI j) life)) (he : ze = (if life = 0 then -1 else tm + life))
    (h : tp_Y L tu en ow ta mk) (hQ : tp_QY Q wo hw wa) (hO : tp_QO Q)
    (k : ∀ tu' en' ow' ta' mk' wo' hw' wa' : Nat → Int32, tp_Y (tp_sv tr Q (L ++ [tp_new (tr c) tm (nI c) (nI j) life]) lg).2.1 tu' en' ow' ta' mk' → tp_QY (tp_sv tr Q (L ++ [tp_new (tr c) tm (nI c) (nI j) life]) lg).1 wo' hw' wa' →
      post (nI (L ++ [tp_new (tr c) tm (nI c) (nI j) life]).length) (tm, nI (tp_sv tr Q (L ++ [tp_new (tr c) tm (nI c) (nI j) life]) lg).2.1.length, nI (tp_sv tr Q (L ++ [tp_new (tr c) tm (nI c) (nI j) life]) lg).1.length, tu', en', ow', ta', mk', tr, (tp_sv tr Q (L ++ [tp_new (tr c) tm (nI c) (nI j) life]) lg).2.2, wo', hw', wa')) :
    wY_put_88 post (nI c) ze (nI L.length) tm (nI L.length) (nI Q.length) (upd tu L.length (nI j)) en ow ta mk tr lg wo hw wa := by
  obtain ⟨h20, hA, hoks⟩ := h
  have v0 : vp_in (nI L.length) 20 := vp_in_nI hl (by omega)
  have c0 : (nI L.length).toNatClampNeg = L.length := nI_clamp (by omega)
  have vc : vp_in (nI c) 4 := vp_in_nI hc (by omega)
  have cc : (nI c).toNatClampNeg = c := nI_clamp (by omega)
  have hl1 : nI L.length + 1 = nI (L ++ [tp_new (tr c) tm (nI c) (nI j) life]).length := by rw [nI_1]; simp
  have F : ∀ zo : Int32, zo = (if tr c = 0 then -1 else nI c) →
      wY_put_111 post zo (nI L.length) tm (nI L.length) (nI Q.length) (upd tu L.length (nI j)) (upd en L.length ze) ow ta mk tr lg wo hw wa := by
    intro zo ho
    unfold wY_put_111
    rw [c0]
    refine ⟨v0, nm_e ⟨v0, nm_e ⟨v0, nm_e (nm_r hl1 (tp_yserve (L := L ++ [tp_new (tr c) tm (nI c) (nI j) life]) ⟨by rw [List.length_append, List.length_singleton]; omega, ?_, ?_⟩ hQ hO k))⟩⟩⟩
    · exact tp_A_add _ hA ⟨pk_us, pk_us.trans he, pk_us.trans ho, pk_us, pk_us⟩ (fun i hi => ⟨pk_un hi, pk_un hi, pk_un hi, pk_un hi, pk_un hi⟩)
    · intro e he
      rw [List.mem_append, List.mem_singleton] at he
      rcases he with he | he
      · exact hoks e he
      · rw [he]; exact hok
  unfold wY_put_88
  rw [c0, cc]
  exact ⟨v0, nm_e ⟨vc, br_c (fun z => F _ (by rw [if_pos z])) (fun z => F _ (by rw [if_neg z]))⟩⟩
/-! ask -/
theorem tp_xask48 {post : Int32 → SX → Prop} {L : List tp_E} {Q : List tp_T} {c h w : Nat} {tk : Bool} {kd : Int32} (hkd : kd = if tk then 2 else 1) (hh : h ≤ 3) (hkw : h < 2 → kd = nI (h + 1)) (hc : c < 4) (hw : w ≤ 288)
    (hX : tp_X L tu en ow ta mk wf) (hQ : tp_QQ Q qu) (hO : tp_QO Q) (hK : tp_K Q wk wt) (hn : ∀ q, q ∈ Q → q.1 ≠ c)
    (h1 : ∀ t L', tp_gv tk (tr c) (nI c) (nI w) L = some (t, L') → ∀ tu' en' ow' ta' mk' wf' : Nat → Int32, tp_X L' tu' en' ow' ta' mk' wf' → post t (nI L'.length, lv, nI Q.length, tm, tu', en', ow', ta', mk', wf', tr, upd lg c t, wk, wt, qu))
    (h2 : tp_gv tk (tr c) (nI c) (nI w) L = none → 2 ≤ h → post (-4) (nI L.length, lv, nI Q.length, tm, tu, en, ow, ta, mk, wf, tr, lg, wk, wt, qu))
    (h3 : tp_gv tk (tr c) (nI c) (nI w) L = none → h < 2 → ∀ wk' wt' qu' : Nat → Int32, tp_QQ (Q ++ [(c, h, w)]) qu' → tp_K (Q ++ [(c, h, w)]) wk' wt' → post (-4) (nI L.length, lv, nI (Q ++ [(c, h, w)]).length, tm, tu, en, ow, ta, mk, wf, tr, lg, wk', wt', qu')) :
    wX_ask_48 post (nI c) (nI h) (nI w) kd (nI L.length) lv (nI Q.length) tm tu en ow ta mk wf tr lg wk wt qu := by
  have vc : vp_in (nI c) 4 := vp_in_nI hc (by omega)
  have cc : (nI c).toNatClampNeg = c := nI_clamp (by omega)
  have q3 := tp_Q3 hO hc hn
  unfold wX_ask_48
  refine tp_xgive hkd hc hw hX (fun hg => br_t rfl ?_) (fun t L' hs tu' en' ow' ta' mk' wf' hX' => br_f (tp_n4 (tp_gv_t hX.1.2.2 hs)) (h1 t L' hs _ _ _ _ _ _ hX'))
  by_cases z : h < 2
  · refine br_f (nI_ge (b := 2) z (by decide)) ?_
    have vq : vp_in (nI Q.length) 4 := vp_in_nI q3 (by omega)
    have cq : (nI Q.length).toNatClampNeg = Q.length := nI_clamp (by omega)
    have hl1 : nI Q.length + 1 = nI (Q ++ [(c, h, w)]).length := by rw [nI_1]; simp
    unfold wpX_startWaiting
    dsimp only
    rw [cc, cq, hkw z]
    exact ⟨vc, nm_e ⟨vc, nm_e ⟨vq, nm_e (nm_r hl1 (h3 hg z _ _ _ (tp_QQ_add (q := (c, h, w)) hQ) (tp_K_add hn hK)))⟩⟩⟩
  · exact br_t (nI_le (a := 2) (by omega) (by omega)) (h2 hg (by omega))
theorem tp_yask57 {post : Int32 → SY → Prop} {L : List tp_E} {Q : List tp_T} {c h w : Nat} {tk : Bool} {kd : Int32} (hkd : kd = if tk then 1 else 0) (hh : h ≤ 3) (hc : c < 4)
    (hY : tp_Y L tu en ow ta mk) (hQ : tp_QY Q wo hw wa) (hO : tp_QO Q) (hn : ∀ q, q ∈ Q → q.1 ≠ c)
    (h1 : ∀ t L', tp_gv tk (tr c) (nI c) (nI w) L = some (t, L') → ∀ tu' en' ow' ta' mk' : Nat → Int32, tp_Y L' tu' en' ow' ta' mk' → post t (tm, nI L'.length, nI Q.length, tu', en', ow', ta', mk', tr, upd lg c t, wo, hw, wa))
    (h2 : tp_gv tk (tr c) (nI c) (nI w) L = none → 2 ≤ h → post (-4) (tm, nI L.length, nI Q.length, tu, en, ow, ta, mk, tr, lg, wo, hw, wa))
    (h3 : tp_gv tk (tr c) (nI c) (nI w) L = none → h < 2 → ∀ wo' hw' wa' : Nat → Int32, tp_QY (Q ++ [(c, h, w)]) wo' hw' wa' → post (-4) (tm, nI L.length, nI (Q ++ [(c, h, w)]).length, tu, en, ow, ta, mk, tr, lg, wo', hw', wa')) :
    wY_ask_57 post (nI c) (nI h) (nI w) kd (nI c) tm (nI L.length) (nI Q.length) tu en ow ta mk tr lg wo hw wa := by
  have vc : vp_in (nI c) 4 := vp_in_nI hc (by omega)
  have cc : (nI c).toNatClampNeg = c := nI_clamp (by omega)
  have q3 := tp_Q3 hO hc hn
  unfold wY_ask_57
  refine tp_ygive hkd hc hY (fun hg => br_t rfl ?_) (fun t L' hs tu' en' ow' ta' mk' hY' => br_f (by decide) ⟨vc, ?_⟩)
  · by_cases z : h < 2
    · have vq : vp_in (nI Q.length) 4 := vp_in_nI q3 (by omega)
      have cq : (nI Q.length).toNatClampNeg = Q.length := nI_clamp (by omega)
      have hl1 : nI Q.length + 1 = nI (Q ++ [(c, h, w)]).length := by rw [nI_1]; simp
      refine br_f (nI_ge (b := 2) z (by decide)) ?_
      rw [cq]
      exact ⟨vq, nm_e ⟨vq, nm_e ⟨vq, nm_e (nm_r hl1 (h3 hg z _ _ _ (tp_QY_add hQ)))⟩⟩⟩
    · exact br_t (nI_le (a := 2) (by omega) (by omega)) (h2 hg (by omega))
  · rw [cc, pk_us]
    exact h1 t L' hs _ _ _ _ _ hY'
end
