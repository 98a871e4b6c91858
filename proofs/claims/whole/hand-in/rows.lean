section
theorem pk_us {f : Nat → Int32} {k : Nat} {x : Int32} : upd f k x k = x := if_pos rfl
theorem pk_un {f : Nat → Int32} {k j : Nat} {x : Int32} (h : j ≠ k) : upd f k x j = f j := if_neg h
theorem pk_sub {a b : Nat} (h : b ≤ a) : nI a - nI b = nI (a - b) := by
  obtain ⟨c, rfl⟩ : ∃ c, a = c + b := ⟨a - b, by omega⟩
  rw [← nI_add, Int32.add_sub_cancel, Nat.add_sub_cancel]
theorem pk_m1 (n : Nat) : nI (n + 1) + (-1) = nI n := by
  rw [← nI_1, Int32.add_assoc, show (1 : Int32) + (-1) = 0 from rfl, Int32.add_zero]
theorem pk_mul (a b : Nat) : nI a * nI b = nI (a * b) := (Int32.ofNat_mul a b).symm
theorem pk_div {a d : Nat} (ha : a < 2 ^ 31) (h0 : 0 < d) (hd : d < 2 ^ 31) : nI a / nI d = nI (a / d) := by
  apply Int32.toInt_inj.mp
  rw [lg_idiv_nonneg (by rw [nI_toInt ha]; omega) (by rw [nI_toInt hd]; omega), nI_toInt ha, nI_toInt hd, nI_toInt (Nat.lt_of_le_of_lt (Nat.div_le_self a d) ha)]
  first | rfl | exact (Int.natCast_ediv _ _).symm
theorem pk_ix (x : Int32) {n : Nat} (hn : n < 2 ^ 31) : x < 0 ∨ nI n ≤ x ∨ ∃ j : Nat, j < n ∧ x = nI j := by
  by_cases h : x < 0
  · exact Or.inl h
  · obtain ⟨j, hj, rfl⟩ := nI_of h
    by_cases h2 : j < n
    · exact Or.inr (Or.inr ⟨j, h2, rfl⟩)
    · exact Or.inr (Or.inl (nI_le (by omega) hj))
/-! the entries as a list of (tuple, end, owner, taker, marks), oldest first -/
abbrev tp_E : Type := Int32 × Int32 × Int32 × Int32 × Int32
def tp_A (L : List tp_E) (tu en ow ta mk : Nat → Int32) : Prop :=
  ∀ (i : Nat) (e : tp_E), L[i]? = some e → tu i = e.1 ∧ en i = e.2.1 ∧ ow i = e.2.2.1 ∧ ta i = e.2.2.2.1 ∧ mk i = e.2.2.2.2
def tp_ok (e : tp_E) : Prop := (∃ t : Nat, t < 256 ∧ e.1 = nI t) ∧ (e.2.1 = -1 ∨ 0 ≤ e.2.1) ∧ (e.2.2.1 = -1 ∨ 0 ≤ e.2.2.1) ∧ (e.2.2.2.1 = -1 ∨ 0 ≤ e.2.2.2.1)
def tp_fst (f : Nat) (t : Int32) : Bool := decide (t / 16 = nI f)
def tp_W (L : List tp_E) (wf : Nat → Int32) : Prop := ∀ f, f < 16 → wf f = nI ((L.map (fun e => e.1)).countP (tp_fst f))
def tp_Y (L : List tp_E) (tu en ow ta mk : Nat → Int32) : Prop := L.length ≤ 20 ∧ tp_A L tu en ow ta mk ∧ ∀ e, e ∈ L → tp_ok e
def tp_X (L : List tp_E) (tu en ow ta mk wf : Nat → Int32) : Prop := tp_Y L tu en ow ta mk ∧ tp_W L wf
theorem tp_16 : (16 : Int32) = nI 16 := rfl
theorem tp_17 : (17 : Int32) = nI 17 := rfl
/-! the shift of a removal -/
def tp_sh (a : Nat → Int32) (i m : Nat) : Nat → Int32 := fun j => if i ≤ j ∧ j < m then a (j + 1) else a j
theorem tp_sh_e (a : Nat → Int32) (m : Nat) : tp_sh a m m = a := by
  funext j
  simp only [tp_sh]
  rw [if_neg (by omega)]
theorem tp_sh_s (a : Nat → Int32) {i m : Nat} (h : i < m) : tp_sh (upd a i (a (i + 1))) (i + 1) m = tp_sh a i m := by
  funext j
  simp only [tp_sh, upd]
  by_cases h1 : i + 1 ≤ j ∧ j < m
  · rw [if_pos h1, if_neg (show ¬ j + 1 = i by omega), if_pos ⟨by omega, h1.2⟩]
  · rw [if_neg h1]
    by_cases h2 : j = i
    · subst h2
      rw [if_pos rfl, if_pos ⟨by omega, h⟩]
    · rw [if_neg h2, if_neg (by omega)]
theorem tp_A_at {A B : List tp_E} {e : tp_E} {tu en ow ta mk : Nat → Int32} (h : tp_A (A ++ e :: B) tu en ow ta mk) :
    tu A.length = e.1 ∧ en A.length = e.2.1 ∧ ow A.length = e.2.2.1 ∧ ta A.length = e.2.2.2.1 ∧ mk A.length = e.2.2.2.2 :=
  h A.length e (by simp)
theorem tp_A_rm {A B : List tp_E} {e : tp_E} {tu en ow ta mk : Nat → Int32} (h : tp_A (A ++ e :: B) tu en ow ta mk) (m : Nat) (hm : m = A.length + B.length) :
    tp_A (A ++ B) (tp_sh tu A.length m) (tp_sh en A.length m) (tp_sh ow A.length m) (tp_sh ta A.length m) (tp_sh mk A.length m) := by
  intro i x hx
  by_cases hi : i < A.length
  · have h1 : (A ++ e :: B)[i]? = some x := by
      rw [List.getElem?_append_left hi] at hx ⊢
      exact hx
    have h2 := h i x h1
    simp only [tp_sh, if_neg (show ¬ (A.length ≤ i ∧ i < m) by omega)]
    exact h2
  · rw [List.getElem?_append_right (by omega)] at hx
    have hl : i - A.length < B.length := (List.getElem?_eq_some_iff.mp hx).1
    have h1 : (A ++ e :: B)[i + 1]? = some x := by
      rw [List.getElem?_append_right (by omega), show i + 1 - A.length = (i - A.length) + 1 by omega, List.getElem?_cons_succ]
      exact hx
    have h2 := h (i + 1) x h1
    simp only [tp_sh, if_pos (show A.length ≤ i ∧ i < m by omega)]
    exact h2
theorem tp_A_set {A B : List tp_E} {e : tp_E} {tu en ow ta mk tu' en' ow' ta' mk' : Nat → Int32} (e' : tp_E) (h : tp_A (A ++ e :: B) tu en ow ta mk)
    (ha : tu' A.length = e'.1 ∧ en' A.length = e'.2.1 ∧ ow' A.length = e'.2.2.1 ∧ ta' A.length = e'.2.2.2.1 ∧ mk' A.length = e'.2.2.2.2)
    (hn : ∀ i, i ≠ A.length → tu' i = tu i ∧ en' i = en i ∧ ow' i = ow i ∧ ta' i = ta i ∧ mk' i = mk i) :
    tp_A (A ++ e' :: B) tu' en' ow' ta' mk' := by
  intro i x hx
  by_cases hi : i = A.length
  · subst hi
    have : e' = x := by simpa using hx
    subst this
    exact ha
  · have h1 : (A ++ e :: B)[i]? = some x := by
      by_cases hl : i < A.length
      · rw [List.getElem?_append_left hl] at hx ⊢
        exact hx
      · rw [List.getElem?_append_right (by omega), show i - A.length = (i - A.length - 1) + 1 by omega, List.getElem?_cons_succ] at hx ⊢
        exact hx
    obtain ⟨n1, n2, n3, n4, n5⟩ := hn i hi
    rw [n1, n2, n3, n4, n5]
    exact h i x h1
theorem tp_A_add {A : List tp_E} {tu en ow ta mk tu' en' ow' ta' mk' : Nat → Int32} (e' : tp_E) (h : tp_A A tu en ow ta mk)
    (ha : tu' A.length = e'.1 ∧ en' A.length = e'.2.1 ∧ ow' A.length = e'.2.2.1 ∧ ta' A.length = e'.2.2.2.1 ∧ mk' A.length = e'.2.2.2.2)
    (hn : ∀ i, i ≠ A.length → tu' i = tu i ∧ en' i = en i ∧ ow' i = ow i ∧ ta' i = ta i ∧ mk' i = mk i) :
    tp_A (A ++ [e']) tu' en' ow' ta' mk' := by
  intro i x hx
  by_cases hi : i = A.length
  · subst hi
    have : e' = x := by simpa using hx
    subst this
    exact ha
  · have hl : i < (A ++ [e']).length := (List.getElem?_eq_some_iff.mp hx).1
    rw [List.length_append, List.length_singleton] at hl
    have h1 : A[i]? = some x := by
      rw [List.getElem?_append_left (by omega)] at hx
      exact hx
    obtain ⟨n1, n2, n3, n4, n5⟩ := hn i hi
    rw [n1, n2, n3, n4, n5]
    exact h i x h1
theorem tp_W_rm {A B : List tp_E} {e : tp_E} {wf : Nat → Int32} (h : tp_W (A ++ e :: B) wf) {g : Nat} (hg : g < 16) (he : e.1 / 16 = nI g) :
    tp_W (A ++ B) (upd wf g (wf g - 1)) := by
  intro f hf
  have h1 := h f hf
  rw [List.map_append, List.map_cons, List.countP_append, List.countP_cons] at h1
  rw [List.map_append, List.countP_append]
  by_cases hfg : f = g
  · subst hfg
    rw [pk_us, h1, if_pos (show tp_fst f e.1 = true by simp [tp_fst, he]), ← Nat.add_assoc, nI_pred]
  · rw [pk_un hfg, h1, if_neg (show ¬ tp_fst f e.1 = true by
      simp only [tp_fst, he, decide_eq_true_eq]
      rw [nI_eq (by omega) (by omega)]
      omega), Nat.add_zero]
theorem tp_W_add {A : List tp_E} {e : tp_E} {wf : Nat → Int32} (h : tp_W A wf) {g : Nat} (hg : g < 16) (he : e.1 / 16 = nI g) :
    tp_W (A ++ [e]) (upd wf g (wf g + 1)) := by
  intro f hf
  have h1 := h f hf
  rw [List.map_append, List.map_cons, List.map_nil, List.countP_append, List.countP_cons, List.countP_nil, Nat.zero_add]
  by_cases hfg : f = g
  · subst hfg
    rw [pk_us, h1, if_pos (show tp_fst f e.1 = true by simp [tp_fst, he]), nI_1]
  · rw [pk_un hfg, h1, if_neg (show ¬ tp_fst f e.1 = true by
      simp only [tp_fst, he, decide_eq_true_eq]
      rw [nI_eq (by omega) (by omega)]
      omega), Nat.add_zero]
theorem tp_W_cg {L L' : List tp_E} {wf : Nat → Int32} (h : tp_W L wf) (e : L'.map (fun e => e.1) = L.map (fun e => e.1)) : tp_W L' wf := by
  intro f hf
  rw [e]
  exact h f hf
theorem tp_d16 {e : tp_E} (h : tp_ok e) : ∃ g : Nat, g < 16 ∧ e.1 / 16 = nI g := by
  obtain ⟨⟨t, ht, h1⟩, _⟩ := h
  refine ⟨t / 16, by omega, ?_⟩
  rw [h1, tp_16, pk_div (by omega) (by omega) (by omega)]
theorem tp_okL {A B : List tp_E} {e : tp_E} (h : ∀ x, x ∈ A ++ e :: B → tp_ok x) : tp_ok e := h e (by simp)
theorem tp_okR {A B : List tp_E} {e : tp_E} (h : ∀ x, x ∈ A ++ e :: B → tp_ok x) : ∀ x, x ∈ A ++ B → tp_ok x := by
  intro x hx
  apply h
  rw [List.mem_append] at hx ⊢
  rcases hx with hx | hx
  · exact Or.inl hx
  · exact Or.inr (List.mem_cons_of_mem _ hx)
theorem tp_okS {A B : List tp_E} {e e' : tp_E} (h : ∀ x, x ∈ A ++ e :: B → tp_ok x) (h' : tp_ok e') : ∀ x, x ∈ A ++ e' :: B → tp_ok x := by
  intro x hx
  rw [List.mem_append, List.mem_cons] at hx
  rcases hx with hx | hx | hx
  · exact h x (by rw [List.mem_append]; exact Or.inl hx)
  · rw [hx]; exact h'
  · exact h x (by rw [List.mem_append]; exact Or.inr (List.mem_cons_of_mem _ hx))
end
section
section
variable {n lv ql tm : Int32} {tu en ow ta mk wf tr lg wk wt qu : Nat → Int32}
/-! what an entry is to a client -/
def tp_ft (t w : Int32) : Bool := decide ((w / 17 = 16 ∨ w / 17 = t / 16) ∧ (w - w / 17 * 17 = 16 ∨ w - w / 17 * 17 = t - t / 16 * 16))
def tp_se (c : Int32) (e : tp_E) : Bool := decide (e.2.2.2.1 = -1 ∧ (e.2.2.1 = -1 ∨ e.2.2.1 = c))
def tp_fr (c : Int32) (e : tp_E) : Bool := decide (e.2.2.2.2 &&& (((1 : Int32) <<< (c &&& 31)) ^^^ (-1)) = 0)
def tp_P (tk : Bool) (c w : Int32) (e : tp_E) : Bool := tp_ft e.1 w && tp_se c e && (!tk || tp_fr c e)
/-! what a give makes of the entry, and of the entries -/
def tp_tk (b c : Int32) (e : tp_E) : List tp_E := if b = 0 ∨ e.2.2.1 = c then [] else [(e.1, e.2.1, e.2.2.1, c, e.2.2.2.2)]
def tp_ac (tk : Bool) (b c : Int32) (e : tp_E) : List tp_E :=
  if tk then tp_tk b c e else if b = 0 then [e] else [(e.1, e.2.1, e.2.2.1, e.2.2.2.1, e.2.2.2.2 ||| ((1 : Int32) <<< (c &&& 31)))]
theorem tp_ac_t {b c : Int32} {e : tp_E} : tp_ac true b c e = tp_tk b c e := rfl
theorem tp_ac_0 {b c : Int32} {e : tp_E} (h : b = 0) : tp_ac false b c e = [e] := by simp [tp_ac, h]
theorem tp_ac_1 {b c : Int32} {e : tp_E} (h : ¬ b = 0) : tp_ac false b c e = [(e.1, e.2.1, e.2.2.1, e.2.2.2.1, e.2.2.2.2 ||| ((1 : Int32) <<< (c &&& 31)))] := by simp [tp_ac, h]
def tp_gv (tk : Bool) (b c w : Int32) : List tp_E → Option (Int32 × List tp_E)
  | [] => none
  | e :: B => if tp_P tk c w e = true then some (e.1, tp_ac tk b c e ++ B) else (tp_gv tk b c w B).map (fun p => (p.1, e :: p.2))
theorem tp_gv_n {tk : Bool} {b c w : Int32} : ∀ {L : List tp_E}, (∀ e, e ∈ L → tp_P tk c w e = false) → tp_gv tk b c w L = none := by
  intro L
  induction L with
  | nil => intro _; rfl
  | cons e B ih =>
    intro h
    rw [tp_gv, if_neg (by rw [h e (by simp)]; decide), ih (fun x hx => h x (List.mem_cons_of_mem _ hx))]
    rfl
theorem tp_gv_s {tk : Bool} {b c w : Int32} {e : tp_E} {B : List tp_E} (he : tp_P tk c w e = true) : ∀ {A : List tp_E}, (∀ a, a ∈ A → tp_P tk c w a = false) →
    tp_gv tk b c w (A ++ e :: B) = some (e.1, A ++ (tp_ac tk b c e ++ B)) := by
  intro A
  induction A with
  | nil =>
    intro _
    show tp_gv tk b c w (e :: B) = _
    rw [tp_gv, if_pos he]
    rfl
  | cons a A ih =>
    intro h
    show tp_gv tk b c w (a :: (A ++ e :: B)) = _
    rw [tp_gv, if_neg (by rw [h a (by simp)]; decide), ih (fun x hx => h x (List.mem_cons_of_mem _ hx))]
    rfl
/-! the component's small methods -/
theorem tp_xfits {post : Int32 → Prop} {i : Nat} {t w : Int32} (hi : i < 20) (ht : tu i = t) (h1 : tp_ft t w = true → post 1) (h0 : tp_ft t w = false → post 0) :
    wpX_fits post (n, lv, ql, tm, tu, en, ow, ta, mk, wf, tr, lg, wk, wt, qu) (nI i) w := by
  have hv : vp_in (nI i) 20 := vp_in_nI hi (by omega)
  have hc : (nI i).toNatClampNeg = i := nI_clamp (by omega)
  rw [tp_ft, decide_eq_true_eq] at h1
  rw [tp_ft, decide_eq_false_iff_not] at h0
  unfold wpX_fits wX_fits_30
  simp only [hc, ht]
  have K : (w / 17 = 16 ∨ w / 17 = t / 16) → ((w - w / 17 * 17 = 16 → post 1) ∧ (¬ w - w / 17 * 17 = 16 → (vp_in (nI i) 20 ∧ (¬ (16 : Int32) = 0 ∧ ((w - w / 17 * 17 = t - t / 16 * 16 → post 1) ∧ (¬ w - w / 17 * 17 = t - t / 16 * 16 → post 0)))))) :=
    fun z => br_c (fun c => h1 ⟨z, Or.inl c⟩) (fun c => ⟨hv, by decide, br_c (fun d => h1 ⟨z, Or.inr d⟩) (fun d => h0 (fun y => y.2.elim c d))⟩)
  exact ⟨by decide, nm_e ⟨by decide, nm_e (br_c (fun a => K (Or.inl a)) (fun a => ⟨hv, by decide, br_c (fun b => K (Or.inr b)) (fun b => h0 (fun y => y.1.elim a b))⟩))⟩⟩
theorem tp_xseen {post : Int32 → Prop} {i : Nat} {c : Int32} {e : tp_E} (hi : i < 20) (ho : ow i = e.2.2.1) (ht : ta i = e.2.2.2.1) (h1 : tp_se c e = true → post 1) (h0 : tp_se c e = false → post 0) :
    wpX_isSeen post (n, lv, ql, tm, tu, en, ow, ta, mk, wf, tr, lg, wk, wt, qu) c (nI i) := by
  have hv : vp_in (nI i) 20 := vp_in_nI hi (by omega)
  have hc : (nI i).toNatClampNeg = i := nI_clamp (by omega)
  rw [tp_se, decide_eq_true_eq] at h1
  rw [tp_se, decide_eq_false_iff_not] at h0
  unfold wpX_isSeen
  simp only [hc, ho, ht]
  exact ⟨hv, br_c (fun a => ⟨hv, br_c (fun b => h1 ⟨a, Or.inl b⟩) (fun b => ⟨hv, br_c (fun d => h1 ⟨a, Or.inr d⟩) (fun d => h0 (fun y => y.2.elim b d))⟩)⟩) (fun a => h0 (fun y => a y.1))⟩
theorem tp_xmark {post : Int32 → Prop} {i : Nat} {c : Int32} {e : tp_E} (hi : i < 20) (hm : mk i = e.2.2.2.2) (h1 : tp_fr c e = true → post 0) (h0 : tp_fr c e = false → post 1) :
    wpX_isMarkedByOther post (n, lv, ql, tm, tu, en, ow, ta, mk, wf, tr, lg, wk, wt, qu) c (nI i) := by
  have hv : vp_in (nI i) 20 := vp_in_nI hi (by omega)
  have hc : (nI i).toNatClampNeg = i := nI_clamp (by omega)
  rw [tp_fr, decide_eq_true_eq] at h1
  rw [tp_fr, decide_eq_false_iff_not] at h0
  unfold wpX_isMarkedByOther
  simp only [hc, hm]
  exact ⟨hv, br_c h1 h0⟩
theorem tp_xstop {post : Int32 → Prop} {L : List tp_E} {w : Nat} (hw : w ≤ 288) (h : tp_X L tu en ow ta mk wf) (h1 : post (nI L.length)) (h0 : (∀ e, e ∈ L → tp_ft e.1 (nI w) = false) → post 0) :
    wpX_searchStop post (nI L.length, lv, ql, tm, tu, en, ow, ta, mk, wf, tr, lg, wk, wt, qu) (nI w) := by
  have hd : nI w / 17 = nI (w / 17) := by rw [tp_17, pk_div (by omega) (by omega) (by omega)]
  unfold wpX_searchStop
  dsimp only
  refine ⟨by decide, nm_r hd (br_c (fun _ => br_c (fun _ => h1) (fun hf => ?_)) (fun _ => h1))⟩
  have hf' : w / 17 ≠ 16 := fun z => hf (by rw [z]; rfl)
  have hl : w / 17 < 16 := by omega
  refine ⟨vp_in_nI hl (by omega), br_c (fun hz => h0 ?_) (fun _ => h1)⟩
  rw [nI_clamp (by omega), h.2 _ hl] at hz
  have hle : (L.map (fun e => e.1)).countP (tp_fst (w / 17)) ≤ L.length := by
    have := List.countP_le_length (p := tp_fst (w / 17)) (l := L.map (fun e => e.1))
    rwa [List.length_map] at this
  have h20 := h.1.1
  have hz' : (L.map (fun e => e.1)).countP (tp_fst (w / 17)) = 0 := by
    rw [← nI_0, nI_eq (by omega) (by omega)] at hz
    exact hz
  intro e he
  rw [List.countP_eq_zero] at hz'
  have hn := hz' e.1 (List.mem_map_of_mem he)
  rw [tp_ft, decide_eq_false_iff_not, hd]
  intro y
  rcases y.1 with y1 | y1
  · exact hf y1
  · apply hn
    rw [tp_fst, decide_eq_true_eq]
    exact y1.symm
theorem tp_xfind10 {post : Int32 → Prop} {c w kd : Int32} {tk : Bool} (hkd : kd = if tk then 2 else 1) {L : List tp_E} (h : tp_Y L tu en ow ta mk)
    (h0 : (∀ e, e ∈ L → tp_P tk c w e = false) → post (-1))
    (h1 : ∀ A e B, L = A ++ e :: B → (∀ a, a ∈ A → tp_P tk c w a = false) → tp_P tk c w e = true → post (nI A.length)) :
    ∀ (R A : List tp_E) (m : Nat), L = A ++ R → (∀ a, a ∈ A → tp_P tk c w a = false) → R.length < m →
    wX_findOldest_10 post c kd w (nI L.length) n lv ql tm tu en ow ta mk wf tr lg wk wt qu m (nI A.length) := by
  intro R
  induction R with
  | nil =>
    intro A m hL hA hm
    obtain ⟨m, rfl⟩ : ∃ p, m = p + 1 := ⟨m - 1, by omega⟩
    rw [List.append_nil] at hL
    rw [hL]
    exact br_t (Int32.le_refl _) (h0 (by rw [hL]; exact hA))
  | cons e R ih =>
    intro A m hL hA hm
    obtain ⟨m, rfl⟩ : ∃ p, m = p + 1 := ⟨m - 1, by omega⟩
    have hlen : L.length = A.length + (R.length + 1) := by rw [hL]; simp
    have h20 := h.1
    have ha := h.2.1
    rw [hL] at ha
    obtain ⟨a1, a2, a3, a4, a5⟩ := tp_A_at ha
    have hi : A.length < 20 := by omega
    have next : tp_P tk c w e = false → ∀ y, y = nI A.length + 1 → wX_findOldest_10 post c kd w (nI L.length) n lv ql tm tu en ow ta mk wf tr lg wk wt qu m y := by
      intro hp
      refine nm_r (nI_1 _) ?_
      have := ih (A ++ [e]) m (by simp [hL]) (by
        intro x hx
        rw [List.mem_append, List.mem_singleton] at hx
        rcases hx with hx | hx
        · exact hA x hx
        · rw [hx]; exact hp) (by rw [List.length_cons] at hm; omega)
      rwa [List.length_append, List.length_singleton] at this
    refine br_f (nI_ge (by omega) (by omega)) ?_
    refine tp_xfits (t := e.1) hi a1 (fun f1 => br_f (by decide) ?_) (fun f0 => br_t rfl (next (by simp [tp_P, f0])))
    refine tp_xseen (e := e) hi a3 a4 (fun s1 => br_f (by decide) ?_) (fun s0 => br_t rfl (next (by simp [tp_P, s0])))
    cases tk with
    | false => exact br_t hkd (h1 A e R hL hA (by simp [tp_P, f1, s1]))
    | true =>
      refine br_f (by rw [hkd]; decide) ?_
      exact tp_xmark (e := e) hi a5 (fun m1 => br_t rfl (h1 A e R hL hA (by simp [tp_P, f1, s1, m1]))) (fun m0 => br_f (by decide) (next (by simp [tp_P, m0])))
theorem tp_xfind {post : Int32 → Prop} {c kd : Int32} {w : Nat} {tk : Bool} (hkd : kd = if tk then 2 else 1) {L : List tp_E} (hw : w ≤ 288) (h : tp_X L tu en ow ta mk wf)
    (h0 : (∀ e, e ∈ L → tp_P tk c (nI w) e = false) → post (-1))
    (h1 : ∀ A e B, L = A ++ e :: B → (∀ a, a ∈ A → tp_P tk c (nI w) a = false) → tp_P tk c (nI w) e = true → post (nI A.length)) :
    wpX_findOldest post (nI L.length, lv, ql, tm, tu, en, ow, ta, mk, wf, tr, lg, wk, wt, qu) c kd (nI w) := by
  unfold wpX_findOldest
  refine tp_xstop hw h ⟨L.length + 1, ?_⟩ (fun hz => ⟨1, ?_⟩)
  · have := tp_xfind10 (n := nI L.length) (lv := lv) (ql := ql) (tm := tm) (wf := wf) (tr := tr) (lg := lg) (wk := wk) (wt := wt) (qu := qu) hkd h.1 h0 h1 L [] (L.length + 1) rfl (by simp) (by omega)
    exact this
  · exact br_t (Int32.le_refl _) (h0 (fun e he => by simp [tp_P, hz e he]))
/-! removal -/
theorem tp_xrm30 {post : SX → Prop} (m : Nat) (hm : m < 20) : ∀ (d i p : Nat) (tu en ow ta mk : Nat → Int32), i + d = m → d < p →
    post (nI m, lv, ql, tm, tp_sh tu i m, tp_sh en i m, tp_sh ow i m, tp_sh ta i m, tp_sh mk i m, wf, tr, lg, wk, wt, qu) →
    wX_removeEntry_30 post (nI m) lv ql tm p (nI i) tu en ow ta mk wf tr lg wk wt qu := by
  intro d
  induction d with
  | zero =>
    intro i p tu en ow ta mk hi hp h
    obtain ⟨p, rfl⟩ : ∃ q, p = q + 1 := ⟨p - 1, by omega⟩
    obtain rfl : i = m := by omega
    simp only [tp_sh_e] at h
    exact br_t (Int32.le_refl _) h
  | succ d ih =>
    intro i p tu en ow ta mk hi hp h
    obtain ⟨p, rfl⟩ : ∃ q, p = q + 1 := ⟨p - 1, by omega⟩
    have v0 : vp_in (nI i) 20 := vp_in_nI (by omega) (by omega)
    have v1 : vp_in (nI i + 1) 20 := by rw [nI_1]; exact vp_in_nI (by omega) (by omega)
    have c0 : (nI i).toNatClampNeg = i := nI_clamp (by omega)
    have c1 : (nI i + 1).toNatClampNeg = i + 1 := by rw [nI_1]; exact nI_clamp (by omega)
    have im : i < m := by omega
    rw [← tp_sh_s tu im, ← tp_sh_s en im, ← tp_sh_s ow im, ← tp_sh_s ta im, ← tp_sh_s mk im] at h
    refine br_f (nI_ge im (by omega)) ⟨v1, v0, nm_r (by rw [c0, c1]) ⟨v1, v0, nm_r (by rw [c0, c1]) ⟨v1, v0, nm_r (by rw [c0, c1]) ⟨v1, v0, nm_r (by rw [c0, c1]) ⟨v1, v0, nm_r (by rw [c0, c1]) (nm_r (nI_1 _) ?_)⟩⟩⟩⟩⟩
    exact ih (i + 1) p _ _ _ _ _ (by omega) (by omega) h
theorem tp_xrm {post : SX → Prop} {A B : List tp_E} {e : tp_E} (hn : n = nI (A ++ e :: B).length) (h : tp_X (A ++ e :: B) tu en ow ta mk wf)
    (k : ∀ tu' en' ow' ta' mk' wf' : Nat → Int32, tp_X (A ++ B) tu' en' ow' ta' mk' wf' → post (nI (A ++ B).length, lv, ql, tm, tu', en', ow', ta', mk', wf', tr, lg, wk, wt, qu)) :
    wpX_removeEntry post (n, lv, ql, tm, tu, en, ow, ta, mk, wf, tr, lg, wk, wt, qu) (nI A.length) := by
  obtain ⟨⟨h20, hA, hok⟩, hW⟩ := h
  have hlen : (A ++ e :: B).length = (A.length + B.length) + 1 := by simp; omega
  have hl' : (A ++ B).length = A.length + B.length := by simp
  have v0 : vp_in (nI A.length) 20 := vp_in_nI (by omega) (by omega)
  have c0 : (nI A.length).toNatClampNeg = A.length := nI_clamp (by omega)
  obtain ⟨a1, a2, a3, a4, a5⟩ := tp_A_at hA
  obtain ⟨g, hg, he⟩ := tp_d16 (tp_okL hok)
  have cg : (nI g).toNatClampNeg = g := nI_clamp (by omega)
  have vg : vp_in (nI g) 16 := vp_in_nI hg (by omega)
  unfold wpX_removeEntry
  simp only [c0, a1, he, cg]
  refine ⟨v0, by decide, vg, vg, nm_e (nm_r (by rw [hn, hlen, nI_pred]) ⟨B.length + 1, ?_⟩)⟩
  refine tp_xrm30 (A.length + B.length) (by omega) B.length A.length _ _ _ _ _ _ rfl (by omega) ?_
  rw [← hl']
  exact k _ _ _ _ _ _ ⟨⟨by omega, tp_A_rm hA _ hl', tp_okR hok⟩, tp_W_rm hW hg he⟩
theorem tp_xtake {post : SX → Prop} {A B : List tp_E} {e : tp_E} {c : Nat} (hc : c < 4) (hn : n = nI (A ++ e :: B).length) (h : tp_X (A ++ e :: B) tu en ow ta mk wf)
    (k : ∀ tu' en' ow' ta' mk' wf' : Nat → Int32, tp_X (A ++ (tp_tk (tr c) (nI c) e ++ B)) tu' en' ow' ta' mk' wf' → post (nI (A ++ (tp_tk (tr c) (nI c) e ++ B)).length, lv, ql, tm, tu', en', ow', ta', mk', wf', tr, lg, wk, wt, qu)) :
    wpX_takeEntry post (n, lv, ql, tm, tu, en, ow, ta, mk, wf, tr, lg, wk, wt, qu) (nI c) (nI A.length) := by
  obtain ⟨⟨h20, hA, hok⟩, hW⟩ := id h
  have hlen : (A ++ e :: B).length = (A.length + B.length) + 1 := by simp; omega
  have v0 : vp_in (nI A.length) 20 := vp_in_nI (by omega) (by omega)
  have c0 : (nI A.length).toNatClampNeg = A.length := nI_clamp (by omega)
  have vc : vp_in (nI c) 4 := vp_in_nI hc (by omega)
  have cc : (nI c).toNatClampNeg = c := nI_clamp (by omega)
  obtain ⟨a1, a2, a3, a4, a5⟩ := tp_A_at hA
  have K : (tr c = 0 ∨ e.2.2.1 = nI c) → wX_takeEntry_29 post (nI A.length) n lv ql tm tu en ow ta mk wf tr lg wk wt qu := by
    intro z
    rw [tp_tk, if_pos z] at k
    unfold wX_takeEntry_29
    exact tp_xrm hn h k
  unfold wpX_takeEntry
  simp only [c0, cc, a3]
  refine ⟨vc, br_c (fun z => K (Or.inl z)) (fun z => ⟨v0, br_c (fun y => K (Or.inr y)) (fun y => ⟨v0, nm_e ?_⟩)⟩)⟩
  rw [tp_tk, if_neg (fun x => x.elim z y)] at k
  have hl2 : (A ++ ([(e.1, e.2.1, e.2.2.1, nI c, e.2.2.2.2)] ++ B)).length = (A ++ e :: B).length := by simp
  rw [hl2, ← hn] at k
  refine k _ _ _ _ _ _ ⟨⟨by omega, tp_A_set _ hA ⟨a1, a2, a3, pk_us, a5⟩ (fun i hi => ⟨rfl, rfl, rfl, pk_un hi, rfl⟩), tp_okS hok ?_⟩, tp_W_cg hW (by simp)⟩
  obtain ⟨o1, o2, o3, o4⟩ := tp_okL hok
  exact ⟨o1, o2, o3, Or.inr (nI_pos' (by omega))⟩
theorem tp_xgive {post : Int32 → SX → Prop} {L : List tp_E} {c w : Nat} {tk : Bool} {kd : Int32} (hkd : kd = if tk then 2 else 1) (hc : c < 4) (hw : w ≤ 288) (h : tp_X L tu en ow ta mk wf)
    (h0 : tp_gv tk (tr c) (nI c) (nI w) L = none → post (-4) (nI L.length, lv, ql, tm, tu, en, ow, ta, mk, wf, tr, lg, wk, wt, qu))
    (h1 : ∀ t L', tp_gv tk (tr c) (nI c) (nI w) L = some (t, L') → ∀ tu' en' ow' ta' mk' wf' : Nat → Int32, tp_X L' tu' en' ow' ta' mk' wf' → post t (nI L'.length, lv, ql, tm, tu', en', ow', ta', mk', wf', tr, upd lg c t, wk, wt, qu)) :
    wpX_give post (nI L.length, lv, ql, tm, tu, en, ow, ta, mk, wf, tr, lg, wk, wt, qu) (nI c) kd (nI w) := by
  unfold wpX_give
  dsimp only
  refine tp_xfind hkd hw h (fun hz => br_t rfl (h0 (tp_gv_n hz))) ?_
  intro A e B hL hA he
  subst hL
  have k := h1 _ _ (tp_gv_s he hA)
  obtain ⟨⟨h20, hAA, hok⟩, hW⟩ := id h
  have hlen : (A ++ e :: B).length = (A.length + B.length) + 1 := by simp; omega
  have v0 : vp_in (nI A.length) 20 := vp_in_nI (by omega) (by omega)
  have c0 : (nI A.length).toNatClampNeg = A.length := nI_clamp (by omega)
  have vc : vp_in (nI c) 4 := vp_in_nI hc (by omega)
  have cc : (nI c).toNatClampNeg = c := nI_clamp (by omega)
  obtain ⟨a1, a2, a3, a4, a5⟩ := tp_A_at hAA
  have hm : ¬ nI A.length = -1 := fun z => nI_pos (n := A.length) (by omega) (by rw [z]; decide)
  refine br_f hm ⟨v0, nm_r (e' := e.1) (by rw [c0]; exact a1) ⟨vc, nm_r (by rw [cc]) ?_⟩⟩
  cases tk with
  | true =>
    refine br_t hkd ?_
    rw [tp_ac_t] at k
    exact tp_xtake hc rfl h k
  | false =>
    refine br_f (by rw [hkd]; decide) ⟨vc, ?_⟩
    rw [cc]
    refine br_c (fun z => ?_) (fun z => ⟨v0, v0, nm_r (by rw [c0, a5]) ?_⟩)
    · rw [tp_ac_0 z] at k
      exact k _ _ _ _ _ _ h
    · rw [tp_ac_1 z] at k
      have hl2 : (A ++ ([(e.1, e.2.1, e.2.2.1, e.2.2.2.1, e.2.2.2.2 ||| ((1 : Int32) <<< (nI c &&& 31)))] ++ B)).length = (A ++ e :: B).length := by simp
      have k2 := k tu en ow ta (upd mk A.length (e.2.2.2.2 ||| ((1 : Int32) <<< (nI c &&& 31)))) wf
        ⟨⟨by rw [hl2]; omega, tp_A_set _ hAA ⟨a1, a2, a3, a4, pk_us⟩ (fun i hi => ⟨rfl, rfl, rfl, rfl, pk_un hi⟩), tp_okS hok (tp_okL (e := e) hok)⟩, tp_W_cg hW (by simp)⟩
      rw [hl2] at k2
      exact k2
end
end
section
section
variable {tm n wn : Int32} {tu en ow ta mk tr lg wo hw wa : Nat → Int32}
theorem tp_neg {x : Int32} (h : x = -1 ∨ 0 ≤ x) : (x < 0 ↔ x = -1) ∧ (0 ≤ x ↔ ¬ x = -1) := by
  rcases h with h | h
  · subst h
    decide
  · have h1 : ¬ x < 0 := Int32.not_lt.mpr h
    have h2 : ¬ x = -1 := fun z => h1 (by rw [z]; decide)
    exact ⟨⟨fun z => absurd z h1, fun z => absurd z h2⟩, ⟨fun _ => h2, fun _ => h⟩⟩
theorem tp_yfits {post : Int32 → Prop} {t w : Int32} (h1 : tp_ft t w = true → post 1) (h0 : tp_ft t w = false → post 0) :
    wpY_fits post (tm, n, wn, tu, en, ow, ta, mk, tr, lg, wo, hw, wa) t w := by
  rw [tp_ft, decide_eq_true_eq] at h1
  rw [tp_ft, decide_eq_false_iff_not] at h0
  unfold wpY_fits wY_fits_25
  dsimp only
  have K : (w / 17 = 16 ∨ w / 17 = t / 16) → ((w - w / 17 * 17 = 16 → post 1) ∧ (¬ w - w / 17 * 17 = 16 → ((¬ (16 : Int32) = 0 ∧ ((w - w / 17 * 17 = t - t / 16 * 16 → post 1) ∧ (¬ w - w / 17 * 17 = t - t / 16 * 16 → post 0)))))) :=
    fun z => br_c (fun c => h1 ⟨z, Or.inl c⟩) (fun c => ⟨by decide, br_c (fun d => h1 ⟨z, Or.inr d⟩) (fun d => h0 (fun y => y.2.elim c d))⟩)
  exact ⟨by decide, nm_e ⟨by decide, nm_e (br_c (fun a => K (Or.inl a)) (fun a => ⟨by decide, br_c (fun b => K (Or.inr b)) (fun b => h0 (fun y => y.1.elim a b))⟩))⟩⟩
theorem tp_yseen {post : Int32 → Prop} {i : Nat} {c : Int32} {e : tp_E} (hi : i < 20) (he : tp_ok e) (ho : ow i = e.2.2.1) (ht : ta i = e.2.2.2.1) (h1 : tp_se c e = true → post 1) (h0 : tp_se c e = false → post 0) :
    wpY_isSeen post (tm, n, wn, tu, en, ow, ta, mk, tr, lg, wo, hw, wa) (nI i) c := by
  have hv : vp_in (nI i) 20 := vp_in_nI hi (by omega)
  have hc : (nI i).toNatClampNeg = i := nI_clamp (by omega)
  rw [tp_se, decide_eq_true_eq] at h1
  rw [tp_se, decide_eq_false_iff_not] at h0
  obtain ⟨_, _, o3, o4⟩ := he
  have t2 := (tp_neg o4).2
  have w1 := (tp_neg o3).1
  unfold wpY_isSeen
  simp only [hc, ho, ht]
  refine ⟨hv, br_c (fun a => h0 (fun y => t2.mp a y.1)) (fun a => ?_)⟩
  have a' : e.2.2.2.1 = -1 := Classical.byContradiction (fun z => a (t2.mpr z))
  exact ⟨hv, br_c (fun b => h1 ⟨a', Or.inl (w1.mp b)⟩) (fun b => ⟨hv, br_c (fun d => h1 ⟨a', Or.inr d⟩) (fun d => h0 (fun y => y.2.elim (fun z => b (w1.mpr z)) d))⟩)⟩
theorem tp_yfree {post : Int32 → Prop} {i : Nat} {c : Int32} {e : tp_E} (hi : i < 20) (he : tp_ok e) (ho : ow i = e.2.2.1) (ht : ta i = e.2.2.2.1) (hm : mk i = e.2.2.2.2)
    (h1 : tp_se c e = true → tp_fr c e = true → post 1) (h0 : (tp_se c e && tp_fr c e) = false → post 0) :
    wpY_isFree post (tm, n, wn, tu, en, ow, ta, mk, tr, lg, wo, hw, wa) (nI i) c := by
  have hv : vp_in (nI i) 20 := vp_in_nI hi (by omega)
  have hc : (nI i).toNatClampNeg = i := nI_clamp (by omega)
  unfold wpY_isFree
  dsimp only
  refine tp_yseen hi he ho ht (fun s1 => br_f (by decide) ⟨hv, ?_⟩) (fun s0 => br_t rfl (h0 (by simp [s0])))
  rw [hc, hm]
  exact br_c (fun z => h1 s1 (by rw [tp_fr, decide_eq_true_eq]; exact z)) (fun z => h0 (by
    have : tp_fr c e = false := by rw [tp_fr, decide_eq_false_iff_not]; exact z
    simp [this]))
/-! removal -/
theorem tp_yrm2 {post : SY → Prop} (m : Nat) (hm : m < 20) (hn : n = nI (m + 1)) : ∀ (d i p : Nat) (tu en ow ta mk : Nat → Int32), i + d = m → d < p →
    post (tm, nI m, wn, tp_sh tu i m, tp_sh en i m, tp_sh ow i m, tp_sh ta i m, tp_sh mk i m, tr, lg, wo, hw, wa) →
    wY_remove_2 post tm n wn p (nI i) tu en ow ta mk tr lg wo hw wa := by
  have hp1 : n - 1 = nI m := by rw [hn, nI_pred]
  intro d
  induction d with
  | zero =>
    intro i p tu en ow ta mk hi hp h
    obtain ⟨p, rfl⟩ : ∃ q, p = q + 1 := ⟨p - 1, by omega⟩
    obtain rfl : i = m := by omega
    simp only [tp_sh_e] at h
    exact br_t (by rw [hp1]; exact Int32.le_refl _) (nm_r hp1 h)
  | succ d ih =>
    intro i p tu en ow ta mk hi hp h
    obtain ⟨p, rfl⟩ : ∃ q, p = q + 1 := ⟨p - 1, by omega⟩
    have v0 : vp_in (nI i) 20 := vp_in_nI (by omega) (by omega)
    have v1 : vp_in (nI i + 1) 20 := by rw [nI_1]; exact vp_in_nI (by omega) (by omega)
    have c0 : (nI i).toNatClampNeg = i := nI_clamp (by omega)
    have c1 : (nI i + 1).toNatClampNeg = i + 1 := by rw [nI_1]; exact nI_clamp (by omega)
    have im : i < m := by omega
    rw [← tp_sh_s tu im, ← tp_sh_s en im, ← tp_sh_s ow im, ← tp_sh_s ta im, ← tp_sh_s mk im] at h
    refine br_f (by rw [hp1]; exact nI_ge im (by omega)) ⟨v1, v0, nm_r (by rw [c0, c1]) ⟨v1, v0, nm_r (by rw [c0, c1]) ⟨v1, v0, nm_r (by rw [c0, c1]) ⟨v1, v0, nm_r (by rw [c0, c1]) ⟨v1, v0, nm_r (by rw [c0, c1]) (nm_r (nI_1 _) ?_)⟩⟩⟩⟩⟩
    exact ih (i + 1) p _ _ _ _ _ (by omega) (by omega) h
theorem tp_yrm {post : SY → Prop} {A B : List tp_E} {e : tp_E} (hn : n = nI (A ++ e :: B).length) (h : tp_Y (A ++ e :: B) tu en ow ta mk)
    (k : ∀ tu' en' ow' ta' mk' : Nat → Int32, tp_Y (A ++ B) tu' en' ow' ta' mk' → post (tm, nI (A ++ B).length, wn, tu', en', ow', ta', mk', tr, lg, wo, hw, wa)) :
    wpY_remove post (tm, n, wn, tu, en, ow, ta, mk, tr, lg, wo, hw, wa) (nI A.length) := by
  obtain ⟨h20, hA, hok⟩ := h
  have hlen : (A ++ e :: B).length = (A.length + B.length) + 1 := by simp; omega
  have hl' : (A ++ B).length = A.length + B.length := by simp
  unfold wpY_remove
  dsimp only
  refine ⟨B.length + 1, ?_⟩
  refine tp_yrm2 (A.length + B.length) (by omega) (by rw [hn, hlen]) B.length A.length _ _ _ _ _ _ rfl (by omega) ?_
  rw [← hl']
  exact k _ _ _ _ _ ⟨by omega, tp_A_rm hA _ hl', tp_okR hok⟩
theorem tp_ytake {post : SY → Prop} {A B : List tp_E} {e : tp_E} {c : Nat} (hc : c < 4) (hn : n = nI (A ++ e :: B).length) (h : tp_Y (A ++ e :: B) tu en ow ta mk)
    (k : ∀ tu' en' ow' ta' mk' : Nat → Int32, tp_Y (A ++ (tp_tk (tr c) (nI c) e ++ B)) tu' en' ow' ta' mk' → post (tm, nI (A ++ (tp_tk (tr c) (nI c) e ++ B)).length, wn, tu', en', ow', ta', mk', tr, lg, wo, hw, wa)) :
    wpY_take post (tm, n, wn, tu, en, ow, ta, mk, tr, lg, wo, hw, wa) (nI A.length) (nI c) := by
  obtain ⟨h20, hA, hok⟩ := id h
  have hlen : (A ++ e :: B).length = (A.length + B.length) + 1 := by simp; omega
  have v0 : vp_in (nI A.length) 20 := vp_in_nI (by omega) (by omega)
  have c0 : (nI A.length).toNatClampNeg = A.length := nI_clamp (by omega)
  have vc : vp_in (nI c) 4 := vp_in_nI hc (by omega)
  have cc : (nI c).toNatClampNeg = c := nI_clamp (by omega)
  obtain ⟨a1, a2, a3, a4, a5⟩ := tp_A_at hA
  have K : (tr c = 0 ∨ e.2.2.1 = nI c) → wY_take_19 post (nI A.length) tm n wn tu en ow ta mk tr lg wo hw wa := by
    intro z
    rw [tp_tk, if_pos z] at k
    unfold wY_take_19
    exact tp_yrm hn h k
  unfold wpY_take
  simp only [c0, cc, a3]
  refine ⟨vc, br_c (fun z => K (Or.inl z)) (fun z => ⟨v0, br_c (fun y => K (Or.inr y)) (fun y => ⟨v0, nm_e ?_⟩)⟩)⟩
  rw [tp_tk, if_neg (fun x => x.elim z y)] at k
  have hl2 : (A ++ ([(e.1, e.2.1, e.2.2.1, nI c, e.2.2.2.2)] ++ B)).length = (A ++ e :: B).length := by simp
  rw [hl2, ← hn] at k
  refine k _ _ _ _ _ ⟨by omega, tp_A_set _ hA ⟨a1, a2, a3, pk_us, a5⟩ (fun i hi => ⟨rfl, rfl, rfl, pk_un hi, rfl⟩), tp_okS hok ?_⟩
  obtain ⟨o1, o2, o3, o4⟩ := tp_okL hok
  exact ⟨o1, o2, o3, Or.inr (nI_pos' (by omega))⟩
theorem tp_ygive54 {post : Int32 → SY → Prop} {A B : List tp_E} {e : tp_E} {c : Nat} {tk : Bool} {kd : Int32} (hkd : kd = if tk then 1 else 0) (hc : c < 4) (hn : n = nI (A ++ e :: B).length) (h : tp_Y (A ++ e :: B) tu en ow ta mk)
    (k : ∀ tu' en' ow' ta' mk' : Nat → Int32, tp_Y (A ++ (tp_ac tk (tr c) (nI c) e ++ B)) tu' en' ow' ta' mk' → post 1 (tm, nI (A ++ (tp_ac tk (tr c) (nI c) e ++ B)).length, wn, tu', en', ow', ta', mk', tr, upd lg c e.1, wo, hw, wa)) :
    wY_give_54 post (nI c) kd (nI A.length) tm n wn tu en ow ta mk tr lg wo hw wa := by
  obtain ⟨h20, hAA, hok⟩ := id h
  have hlen : (A ++ e :: B).length = (A.length + B.length) + 1 := by simp; omega
  have v0 : vp_in (nI A.length) 20 := vp_in_nI (by omega) (by omega)
  have c0 : (nI A.length).toNatClampNeg = A.length := nI_clamp (by omega)
  have vc : vp_in (nI c) 4 := vp_in_nI hc (by omega)
  have cc : (nI c).toNatClampNeg = c := nI_clamp (by omega)
  obtain ⟨a1, a2, a3, a4, a5⟩ := tp_A_at hAA
  unfold wY_give_54 wY_give_98
  refine ⟨v0, vc, nm_r (e' := upd lg c e.1) (by rw [cc, c0, a1]) ?_⟩
  cases tk with
  | true =>
    rw [tp_ac_t] at k
    have hk : ¬ kd = 0 := by rw [hkd]; decide
    exact br_f hk (br_f hk (tp_ytake hc hn h k))
  | false =>
    have hk : kd = 0 := hkd
    refine br_t hk ⟨vc, ?_⟩
    rw [cc]
    refine br_c (fun z => br_t hk ?_) (fun z => ⟨v0, v0, nm_r (by rw [c0, a5]) (br_t hk ?_)⟩)
    · rw [tp_ac_0 z] at k
      have k2 := k _ _ _ _ _ h
      rw [hn]
      exact k2
    · rw [tp_ac_1 z] at k
      have hl2 : (A ++ ([(e.1, e.2.1, e.2.2.1, e.2.2.2.1, e.2.2.2.2 ||| ((1 : Int32) <<< (nI c &&& 31)))] ++ B)).length = (A ++ e :: B).length := by simp
      have k2 := k tu en ow ta (upd mk A.length (e.2.2.2.2 ||| ((1 : Int32) <<< (nI c &&& 31))))
        ⟨by rw [hl2]; omega, tp_A_set _ hAA ⟨a1, a2, a3, a4, pk_us⟩ (fun i hi => ⟨rfl, rfl, rfl, rfl, pk_un hi⟩), tp_okS hok (tp_okL (e := e) hok)⟩
      rw [hl2, ← hn] at k2
      exact k2
theorem tp_ygive3 {post : Int32 → SY → Prop} {L : List tp_E} {c : Nat} {w : Int32} {tk : Bool} {kd : Int32} (hkd : kd = if tk then 1 else 0) (hc : c < 4) (h : tp_Y L tu en ow ta mk)
    (h0 : tp_gv tk (tr c) (nI c) w L = none → post 0 (tm, nI L.length, wn, tu, en, ow, ta, mk, tr, lg, wo, hw, wa))
    (h1 : ∀ t L', tp_gv tk (tr c) (nI c) w L = some (t, L') → ∀ tu' en' ow' ta' mk' : Nat → Int32, tp_Y L' tu' en' ow' ta' mk' → post 1 (tm, nI L'.length, wn, tu', en', ow', ta', mk', tr, upd lg c t, wo, hw, wa)) :
    ∀ (R A : List tp_E) (m : Nat), L = A ++ R → (∀ a, a ∈ A → tp_P tk (nI c) w a = false) → R.length < m →
    wY_give_3 post (nI c) kd w tm (nI L.length) wn tu en ow ta mk tr lg wo hw wa m (nI A.length) := by
  intro R
  induction R with
  | nil =>
    intro A m hL hA hm
    obtain ⟨m, rfl⟩ : ∃ p, m = p + 1 := ⟨m - 1, by omega⟩
    rw [List.append_nil] at hL
    subst hL
    exact br_t (Int32.le_refl _) (h0 (tp_gv_n hA))
  | cons e R ih =>
    intro A m hL hA hm
    obtain ⟨m, rfl⟩ : ∃ p, m = p + 1 := ⟨m - 1, by omega⟩
    have hlen : L.length = A.length + (R.length + 1) := by rw [hL]; simp
    have h20 := h.1
    have ha := h.2.1
    have hok := h.2.2
    rw [hL] at ha hok
    obtain ⟨a1, a2, a3, a4, a5⟩ := tp_A_at ha
    have he := tp_okL hok
    have hi : A.length < 20 := by omega
    have v0 : vp_in (nI A.length) 20 := vp_in_nI (by omega) (by omega)
    have c0 : (nI A.length).toNatClampNeg = A.length := nI_clamp (by omega)
    have next : tp_P tk (nI c) w e = false → ∀ y, y = nI A.length + 1 → wY_give_3 post (nI c) kd w tm (nI L.length) wn tu en ow ta mk tr lg wo hw wa m y := by
      intro hp
      refine nm_r (nI_1 _) ?_
      have := ih (A ++ [e]) m (by simp [hL]) (by
        intro x hx
        rw [List.mem_append, List.mem_singleton] at hx
        rcases hx with hx | hx
        · exact hA x hx
        · rw [hx]; exact hp) (by rw [List.length_cons] at hm; omega)
      rwa [List.length_append, List.length_singleton] at this
    have fin : tp_P tk (nI c) w e = true → wY_give_54 post (nI c) kd (nI A.length) tm (nI L.length) wn tu en ow ta mk tr lg wo hw wa := by
      intro hp
      subst hL
      exact tp_ygive54 hkd hc rfl h (h1 _ _ (tp_gv_s hp hA))
    refine br_f (nI_ge (by omega) (by omega)) ⟨v0, ?_⟩
    rw [c0, a1]
    refine tp_yfits (fun f1 => br_f (by decide) ?_) (fun f0 => br_t rfl (next (by simp [tp_P, f0])))
    cases tk with
    | false =>
      refine br_t hkd ?_
      exact tp_yseen (e := e) hi he a3 a4 (fun s1 => br_f (by decide) (fin (by simp [tp_P, f1, s1]))) (fun s0 => br_t rfl (next (by simp [tp_P, s0])))
    | true =>
      refine br_f (by rw [hkd]; decide) ?_
      exact tp_yfree (e := e) hi he a3 a4 a5 (fun s1 m1 => br_f (by decide) (fin (by simp [tp_P, f1, s1, m1]))) (fun m0 => br_t rfl (next (by
        simp only [tp_P, Bool.not_true, Bool.false_or, Bool.and_assoc, m0, Bool.and_false])))
theorem tp_ygive {post : Int32 → SY → Prop} {L : List tp_E} {c : Nat} {w : Int32} {tk : Bool} {kd : Int32} (hkd : kd = if tk then 1 else 0) (hc : c < 4) (h : tp_Y L tu en ow ta mk)
    (h0 : tp_gv tk (tr c) (nI c) w L = none → post 0 (tm, nI L.length, wn, tu, en, ow, ta, mk, tr, lg, wo, hw, wa))
    (h1 : ∀ t L', tp_gv tk (tr c) (nI c) w L = some (t, L') → ∀ tu' en' ow' ta' mk' : Nat → Int32, tp_Y L' tu' en' ow' ta' mk' → post 1 (tm, nI L'.length, wn, tu', en', ow', ta', mk', tr, upd lg c t, wo, hw, wa)) :
    wpY_give post (tm, nI L.length, wn, tu, en, ow, ta, mk, tr, lg, wo, hw, wa) (nI c) kd w := by
  unfold wpY_give
  dsimp only
  exact ⟨L.length + 1, tp_ygive3 hkd hc h h0 h1 L [] (L.length + 1) rfl (by simp) (by omega)⟩
end
end
section
section
variable {n lv ql tm wn : Int32} {tu en ow ta mk wf tr lg wk wt qu wo hw wa : Nat → Int32}
/-! the queue as a list of (client, how, template) -/
abbrev tp_T : Type := Nat × Nat × Nat
def tp_QY (Q : List tp_T) (wo hw wa : Nat → Int32) : Prop := ∀ (i : Nat) (q : tp_T), Q[i]? = some q → wo i = nI q.1 ∧ hw i = nI q.2.1 ∧ wa i = nI q.2.2
def tp_QQ (Q : List tp_T) (qu : Nat → Int32) : Prop := ∀ (i : Nat) (q : tp_T), Q[i]? = some q → qu i = nI q.1
def tp_K (Q : List tp_T) (wk wt : Nat → Int32) : Prop := (∀ q, q ∈ Q → wk q.1 = nI (q.2.1 + 1) ∧ wt q.1 = nI q.2.2) ∧ (∀ c, c < 4 → (∀ q, q ∈ Q → q.1 ≠ c) → wk c = 0)
def tp_QO (Q : List tp_T) : Prop := (∀ q, q ∈ Q → q.1 < 4 ∧ q.2.1 < 2 ∧ q.2.2 ≤ 288) ∧ Q.Pairwise (fun a b => a.1 ≠ b.1)
theorem tp_pair {K R : List tp_T} {q : tp_T} (h : (K ++ q :: R).Pairwise (fun a b => a.1 ≠ b.1)) : (K ++ R).Pairwise (fun a b => a.1 ≠ b.1) ∧ ∀ x, x ∈ K ++ R → x.1 ≠ q.1 := by
  rw [List.pairwise_append, List.pairwise_cons] at h
  obtain ⟨h1, ⟨h2, h3⟩, h4⟩ := h
  refine ⟨List.pairwise_append.mpr ⟨h1, h3, fun a ha b hb => h4 a ha b (List.mem_cons_of_mem _ hb)⟩, ?_⟩
  intro x hx
  rw [List.mem_append] at hx
  rcases hx with hx | hx
  · exact h4 x hx q (by simp)
  · exact fun z => h2 x hx z.symm
theorem tp_memR {α : Type} {K R : List α} {q x : α} (hx : x ∈ K ++ R) : x ∈ K ++ q :: R := by
  rw [List.mem_append] at hx ⊢
  rcases hx with hx | hx
  · exact Or.inl hx
  · exact Or.inr (List.mem_cons_of_mem _ hx)
theorem tp_QO_rm {K R : List tp_T} {q : tp_T} (h : tp_QO (K ++ q :: R)) : tp_QO (K ++ R) := ⟨fun x hx => h.1 x (tp_memR hx), (tp_pair h.2).1⟩
theorem tp_pig : ∀ (N : Nat) (Q : List tp_T), Q.Pairwise (fun a b => a.1 ≠ b.1) → (∀ q, q ∈ Q → q.1 < N) → Q.length ≤ N := by
  intro N
  induction N with
  | zero =>
    intro Q _ h
    cases Q with
    | nil => simp
    | cons q Q => exact absurd (h q (by simp)) (by omega)
  | succ N ih =>
    intro Q hp h
    by_cases hq : ∃ q, q ∈ Q ∧ q.1 = N
    · obtain ⟨q, hm, hN⟩ := hq
      obtain ⟨K, R, rfl⟩ := List.append_of_mem hm
      obtain ⟨h1, h2⟩ := tp_pair hp
      have := ih (K ++ R) h1 (fun x hx => by
        have a := h x (tp_memR hx)
        have b := h2 x hx
        omega)
      simp only [List.length_append, List.length_cons] at this ⊢
      omega
    · have := ih Q hp (fun x hx => by
        have a := h x hx
        have b : x.1 ≠ N := fun z => hq ⟨x, hx, z⟩
        omega)
      omega
theorem tp_Q4 {Q : List tp_T} (h : tp_QO Q) : Q.length ≤ 4 := tp_pig 4 Q h.2 (fun q hq => (h.1 q hq).1)
theorem tp_Q3 {Q : List tp_T} (h : tp_QO Q) {c : Nat} (hc : c < 4) (hn : ∀ q, q ∈ Q → q.1 ≠ c) : Q.length < 4 := by
  have := tp_pig 4 ((c, 0, 0) :: Q) (List.pairwise_cons.mpr ⟨fun x hx z => hn x hx z.symm, h.2⟩) (fun q hq => by
    rw [List.mem_cons] at hq
    rcases hq with hq | hq
    · rw [hq]; exact hc
    · exact (h.1 q hq).1)
  rw [List.length_cons] at this
  omega
theorem tp_QY_at {K R : List tp_T} {q : tp_T} (h : tp_QY (K ++ q :: R) wo hw wa) : wo K.length = nI q.1 ∧ hw K.length = nI q.2.1 ∧ wa K.length = nI q.2.2 := h K.length q (by simp)
theorem tp_QY_rm {K R : List tp_T} {q : tp_T} (h : tp_QY (K ++ q :: R) wo hw wa) (m : Nat) (hm : m = K.length + R.length) :
    tp_QY (K ++ R) (tp_sh wo K.length m) (tp_sh hw K.length m) (tp_sh wa K.length m) := by
  intro i x hx
  by_cases hi : i < K.length
  · have h1 : (K ++ q :: R)[i]? = some x := by
      rw [List.getElem?_append_left hi] at hx ⊢
      exact hx
    have h2 := h i x h1
    simp only [tp_sh, if_neg (show ¬ (K.length ≤ i ∧ i < m) by omega)]
    exact h2
  · rw [List.getElem?_append_right (by omega)] at hx
    have hl : i - K.length < R.length := (List.getElem?_eq_some_iff.mp hx).1
    have h1 : (K ++ q :: R)[i + 1]? = some x := by
      rw [List.getElem?_append_right (by omega), show i + 1 - K.length = (i - K.length) + 1 by omega, List.getElem?_cons_succ]
      exact hx
    have h2 := h (i + 1) x h1
    simp only [tp_sh, if_pos (show K.length ≤ i ∧ i < m by omega)]
    exact h2
theorem tp_QY_add {K : List tp_T} {c h w : Nat} (hq : tp_QY K wo hw wa) : tp_QY (K ++ [(c, h, w)]) (upd wo K.length (nI c)) (upd hw K.length (nI h)) (upd wa K.length (nI w)) := by
  intro i x hx
  by_cases hi : i = K.length
  · subst hi
    have : (c, h, w) = x := by simpa using hx
    subst this
    exact ⟨pk_us, pk_us, pk_us⟩
  · have hl : i < (K ++ [(c, h, w)]).length := (List.getElem?_eq_some_iff.mp hx).1
    rw [List.length_append, List.length_singleton] at hl
    rw [List.getElem?_append_left (by omega)] at hx
    rw [pk_un hi, pk_un hi, pk_un hi]
    exact hq i x hx
theorem tp_QQ_add {K : List tp_T} {q : tp_T} (h : tp_QQ K qu) : tp_QQ (K ++ [q]) (upd qu K.length (nI q.1)) := by
  intro i x hx
  by_cases hi : i = K.length
  · subst hi
    have : q = x := by simpa using hx
    subst this
    exact pk_us
  · have hl : i < (K ++ [q]).length := (List.getElem?_eq_some_iff.mp hx).1
    rw [List.length_append, List.length_singleton] at hl
    rw [List.getElem?_append_left (by omega)] at hx
    rw [pk_un hi]
    exact h i x hx
theorem tp_K_rm {K R : List tp_T} {q : tp_T} (hp : (K ++ q :: R).Pairwise (fun a b => a.1 ≠ b.1)) (h : tp_K (K ++ q :: R) wk wt) : tp_K (K ++ R) (upd wk q.1 0) wt := by
  obtain ⟨_, h2⟩ := tp_pair hp
  refine ⟨fun x hx => ?_, fun c hc hn => ?_⟩
  · rw [pk_un (h2 x hx)]
    exact h.1 x (tp_memR hx)
  · by_cases z : c = q.1
    · rw [z, pk_us]
    · rw [pk_un z]
      refine h.2 c hc (fun x hx => ?_)
      rw [List.mem_append, List.mem_cons] at hx
      rcases hx with hx | hx | hx
      · exact hn x (by rw [List.mem_append]; exact Or.inl hx)
      · rw [hx]; exact fun y => z y.symm
      · exact hn x (by rw [List.mem_append]; exact Or.inr hx)
theorem tp_K_add {K : List tp_T} {c h w : Nat} (hn : ∀ q, q ∈ K → q.1 ≠ c) (hk : tp_K K wk wt) : tp_K (K ++ [(c, h, w)]) (upd wk c (nI (h + 1))) (upd wt c (nI w)) := by
  refine ⟨fun x hx => ?_, fun d hd hx => ?_⟩
  · rw [List.mem_append, List.mem_singleton] at hx
    rcases hx with hx | hx
    · rw [pk_un (hn x hx), pk_un (hn x hx)]
      exact hk.1 x hx
    · rw [hx]
      exact ⟨pk_us, pk_us⟩
  · have z : d ≠ c := fun y => hx (c, h, w) (by simp) y.symm
    rw [pk_un z]
    exact hk.2 d hd (fun x hm => hx x (by rw [List.mem_append]; exact Or.inl hm))
theorem tp_QO_add {K : List tp_T} {c h w : Nat} (hk : tp_QO K) (hc : c < 4) (hh : h < 2) (hw : w ≤ 288) (hn : ∀ q, q ∈ K → q.1 ≠ c) : tp_QO (K ++ [(c, h, w)]) := by
  refine ⟨fun x hx => ?_, List.pairwise_append.mpr ⟨hk.2, by simp, fun a ha b hb => ?_⟩⟩
  · rw [List.mem_append, List.mem_singleton] at hx
    rcases hx with hx | hx
    · exact hk.1 x hx
    · rw [hx]
      exact ⟨hc, hh, hw⟩
  · rw [List.mem_singleton] at hb
    rw [hb]
    exact hn a ha
theorem tp_wk {Q : List tp_T} (h : tp_K Q wk wt) (ho : tp_QO Q) {c : Nat} (hc : c < 4) : wk c = 0 ↔ ∀ q, q ∈ Q → q.1 ≠ c := by
  refine ⟨fun hz q hq hqc => ?_, h.2 c hc⟩
  have h1 := (h.1 q hq).1
  have h2 := (ho.1 q hq).2.1
  rw [hqc, hz, ← nI_0, nI_eq (by omega) (by omega)] at h1
  omega
/-! the search through the queue -/
theorem tp_yq2 {post : Int32 → Prop} {Q : List tp_T} {c : Int32} (h : tp_QY Q wo hw wa) (h4 : Q.length ≤ 4)
    (h0 : (∀ q, q ∈ Q → nI q.1 ≠ c) → post (-1)) (h1 : ∀ K q R, Q = K ++ q :: R → (∀ x, x ∈ K → nI x.1 ≠ c) → nI q.1 = c → post (nI K.length)) :
    ∀ (S K : List tp_T) (m : Nat), Q = K ++ S → (∀ x, x ∈ K → nI x.1 ≠ c) → S.length < m → wY_queued_2 post c tm n (nI Q.length) tu en ow ta mk tr lg wo hw wa m (nI K.length) := by
  intro S
  induction S with
  | nil =>
    intro K m hQ hK hm
    obtain ⟨m, rfl⟩ : ∃ p, m = p + 1 := ⟨m - 1, by omega⟩
    rw [List.append_nil] at hQ
    subst hQ
    exact br_t (Int32.le_refl _) (h0 hK)
  | cons q S ih =>
    intro K m hQ hK hm
    obtain ⟨m, rfl⟩ : ∃ p, m = p + 1 := ⟨m - 1, by omega⟩
    have hlen : Q.length = K.length + (S.length + 1) := by rw [hQ]; simp
    have ha := h
    rw [hQ] at ha
    obtain ⟨a1, _⟩ := tp_QY_at ha
    have v0 : vp_in (nI K.length) 4 := vp_in_nI (by omega) (by omega)
    have c0 : (nI K.length).toNatClampNeg = K.length := nI_clamp (by omega)
    refine br_f (nI_ge (by omega) (by omega)) ⟨v0, ?_⟩
    rw [c0, a1]
    refine br_c (fun z => h1 K q S hQ hK z) (fun z => nm_r (nI_1 _) ?_)
    have := ih (K ++ [q]) m (by simp [hQ]) (by
      intro x hx
      rw [List.mem_append, List.mem_singleton] at hx
      rcases hx with hx | hx
      · exact hK x hx
      · rw [hx]; exact z) (by rw [List.length_cons] at hm; omega)
    rwa [List.length_append, List.length_singleton] at this
theorem tp_yqueued {post : Int32 → Prop} {Q : List tp_T} {c : Int32} (h : tp_QY Q wo hw wa) (h4 : Q.length ≤ 4)
    (h0 : (∀ q, q ∈ Q → nI q.1 ≠ c) → post (-1)) (h1 : ∀ K q R, Q = K ++ q :: R → (∀ x, x ∈ K → nI x.1 ≠ c) → nI q.1 = c → post (nI K.length)) :
    wpY_queued post (tm, n, nI Q.length, tu, en, ow, ta, mk, tr, lg, wo, hw, wa) c := by
  unfold wpY_queued
  dsimp only
  exact ⟨Q.length + 1, tp_yq2 h h4 h0 h1 Q [] (Q.length + 1) rfl (by simp) (by omega)⟩
theorem tp_xp11 {post : Int32 → Prop} {Q : List tp_T} {c : Int32} (h : tp_QQ Q qu) (h4 : Q.length ≤ 4)
    (h0 : (∀ q, q ∈ Q → nI q.1 ≠ c) → post (-4)) (h1 : ∀ K q R, Q = K ++ q :: R → (∀ x, x ∈ K → nI x.1 ≠ c) → nI q.1 = c → post (nI K.length)) :
    ∀ (S K : List tp_T) (m : Nat), Q = K ++ S → (∀ x, x ∈ K → nI x.1 ≠ c) → S.length < m → wX_place_11 post c n lv (nI Q.length) tm tu en ow ta mk wf tr lg wk wt qu m (nI K.length) := by
  intro S
  induction S with
  | nil =>
    intro K m hQ hK hm
    obtain ⟨m, rfl⟩ : ∃ p, m = p + 1 := ⟨m - 1, by omega⟩
    rw [List.append_nil] at hQ
    subst hQ
    exact br_t (Int32.le_refl _) (h0 hK)
  | cons q S ih =>
    intro K m hQ hK hm
    obtain ⟨m, rfl⟩ : ∃ p, m = p + 1 := ⟨m - 1, by omega⟩
    have hlen : Q.length = K.length + (S.length + 1) := by rw [hQ]; simp
    have a1 := h K.length q (by rw [hQ]; simp)
    have v0 : vp_in (nI K.length) 4 := vp_in_nI (by omega) (by omega)
    have c0 : (nI K.length).toNatClampNeg = K.length := nI_clamp (by omega)
    refine br_f (nI_ge (by omega) (by omega)) ⟨v0, ?_⟩
    rw [c0, a1]
    refine br_c (fun z => h1 K q S hQ hK z) (fun z => nm_r (nI_1 _) ?_)
    have := ih (K ++ [q]) m (by simp [hQ]) (by
      intro x hx
      rw [List.mem_append, List.mem_singleton] at hx
      rcases hx with hx | hx
      · exact hK x hx
      · rw [hx]; exact z) (by rw [List.length_cons] at hm; omega)
    rwa [List.length_append, List.length_singleton] at this
theorem tp_one {K K' R R' : List tp_T} {q q' : tp_T} {c : Int32} (e : K ++ q :: R = K' ++ q' :: R') (h : ∀ x, x ∈ K → nI x.1 ≠ c) (hq : nI q.1 = c)
    (h' : ∀ x, x ∈ K' → nI x.1 ≠ c) (hq' : nI q'.1 = c) : K.length = K'.length := by
  have a : ∀ {K K' R R' : List tp_T} {q q' : tp_T}, K ++ q :: R = K' ++ q' :: R' → nI q.1 = c → (∀ x, x ∈ K' → nI x.1 ≠ c) → ¬ K.length < K'.length := by
    intro K K' R R' q q' e hq h' hl
    have e1 : (K ++ q :: R)[K.length]? = some q := by simp
    rw [e, List.getElem?_append_left hl] at e1
    exact h' q (List.mem_of_getElem? e1) hq
  have a1 := a e hq h'
  have a2 := a e.symm hq' h
  omega
/-! leaving the queue -/
theorem tp_ystop2 {post : SY → Prop} (m : Nat) (hm : m < 4) (hn : wn = nI (m + 1)) : ∀ (d i p : Nat) (wo hw wa : Nat → Int32), i + d = m → d < p →
    post (tm, n, nI m, tu, en, ow, ta, mk, tr, lg, tp_sh wo i m, tp_sh hw i m, tp_sh wa i m) →
    wY_stopWaiting_2 post tm n wn p (nI i) tu en ow ta mk tr lg wo hw wa := by
  have hp1 : wn - 1 = nI m := by rw [hn, nI_pred]
  intro d
  induction d with
  | zero =>
    intro i p wo hw wa hi hp h
    obtain ⟨p, rfl⟩ : ∃ q, p = q + 1 := ⟨p - 1, by omega⟩
    obtain rfl : i = m := by omega
    simp only [tp_sh_e] at h
    exact br_t (by rw [hp1]; exact Int32.le_refl _) (nm_r hp1 h)
  | succ d ih =>
    intro i p wo hw wa hi hp h
    obtain ⟨p, rfl⟩ : ∃ q, p = q + 1 := ⟨p - 1, by omega⟩
    have v0 : vp_in (nI i) 4 := vp_in_nI (by omega) (by omega)
    have v1 : vp_in (nI i + 1) 4 := by rw [nI_1]; exact vp_in_nI (by omega) (by omega)
    have c0 : (nI i).toNatClampNeg = i := nI_clamp (by omega)
    have c1 : (nI i + 1).toNatClampNeg = i + 1 := by rw [nI_1]; exact nI_clamp (by omega)
    have im : i < m := by omega
    rw [← tp_sh_s wo im, ← tp_sh_s hw im, ← tp_sh_s wa im] at h
    refine br_f (by rw [hp1]; exact nI_ge im (by omega)) ⟨v1, v0, nm_r (by rw [c0, c1]) ⟨v1, v0, nm_r (by rw [c0, c1]) ⟨v1, v0, nm_r (by rw [c0, c1]) (nm_r (nI_1 _) ?_)⟩⟩⟩
    exact ih (i + 1) p _ _ _ (by omega) (by omega) h
theorem tp_ystop {post : SY → Prop} {K R : List tp_T} {q : tp_T} (h4 : (K ++ q :: R).length ≤ 4) (hn : wn = nI (K ++ q :: R).length) (h : tp_QY (K ++ q :: R) wo hw wa)
    (k : ∀ wo' hw' wa' : Nat → Int32, tp_QY (K ++ R) wo' hw' wa' → post (tm, n, nI (K ++ R).length, tu, en, ow, ta, mk, tr, lg, wo', hw', wa')) :
    wpY_stopWaiting post (tm, n, wn, tu, en, ow, ta, mk, tr, lg, wo, hw, wa) (nI K.length) := by
  have hlen : (K ++ q :: R).length = (K.length + R.length) + 1 := by simp; omega
  have hl' : (K ++ R).length = K.length + R.length := by simp
  unfold wpY_stopWaiting
  dsimp only
  refine ⟨R.length + 1, ?_⟩
  refine tp_ystop2 (K.length + R.length) (by omega) (by rw [hn, hlen]) R.length K.length _ _ _ _ rfl (by omega) ?_
  rw [← hl']
  exact k _ _ _ (tp_QY_rm h _ hl')
theorem tp_xleave4 {post : SX → Prop} {c : Nat} (hc : c < 4) : ∀ (R K : List tp_T) (T m : Nat) (qu : Nat → Int32), K.length ≤ T → T + R.length ≤ 4 → R.length < m → tp_QQ K qu → (∀ q, q ∈ R → q.1 < 4) →
    (∀ (i : Nat) (q : tp_T), R[i]? = some q → qu (T + i) = nI q.1) →
    (∀ qu' : Nat → Int32, tp_QQ (K ++ R.filter (fun q => decide (q.1 ≠ c))) qu' → post (n, lv, nI (K ++ R.filter (fun q => decide (q.1 ≠ c))).length, tm, tu, en, ow, ta, mk, wf, tr, lg, wk, wt, qu')) →
    wX_leaveQueue_4 post (nI c) n lv (nI (T + R.length)) tm m (nI K.length) (nI T) tu en ow ta mk wf tr lg wk wt qu := by
  intro R
  induction R with
  | nil =>
    intro K T m qu hT h4 hm hK _ hR k
    obtain ⟨m, rfl⟩ : ∃ p, m = p + 1 := ⟨m - 1, by omega⟩
    rw [List.filter_nil, List.append_nil] at k
    exact br_t (Int32.le_refl _) (k qu hK)
  | cons q R ih =>
    intro K T m qu hT h4 hm hK h44 hR k
    obtain ⟨m, rfl⟩ : ∃ p, m = p + 1 := ⟨m - 1, by omega⟩
    rw [List.length_cons] at h4 hm
    have a1 : qu T = nI q.1 := hR 0 q (by simp)
    have v0 : vp_in (nI T) 4 := vp_in_nI (by omega) (by omega)
    have c0 : (nI T).toNatClampNeg = T := nI_clamp (by omega)
    have vk : vp_in (nI K.length) 4 := vp_in_nI (by omega) (by omega)
    have ck : (nI K.length).toNatClampNeg = K.length := nI_clamp (by omega)
    have q4 : q.1 < 4 := h44 q (by simp)
    have hlen : T + (q :: R).length = (T + 1) + R.length := by rw [List.length_cons]; omega
    refine br_f (nI_ge (by rw [List.length_cons]; omega) (by rw [List.length_cons]; omega)) ⟨v0, ?_⟩
    rw [c0, a1]
    refine br_c (fun z => nm_r (nI_1 _) ?_) (fun z => ⟨v0, vk, nm_r (by rw [ck]) (nm_r (nI_1 _) (nm_r (nI_1 _) ?_))⟩)
    · have z' : q.1 = c := (nI_eq (by omega) (by omega)).mp z
      rw [List.filter_cons_of_neg (by simp [z'])] at k
      rw [hlen]
      exact ih K (T + 1) m qu (by omega) (by omega) (by omega) hK (fun x hx => h44 x (List.mem_cons_of_mem _ hx)) (fun i x hx => by
        have := hR (i + 1) x (by rw [List.getElem?_cons_succ]; exact hx)
        rwa [show T + (i + 1) = T + 1 + i by omega] at this) k
    · have z' : q.1 ≠ c := fun y => z (by rw [y])
      rw [List.filter_cons_of_pos (by simp [z'])] at k
      rw [hlen]
      have k2 := ih (K ++ [q]) (T + 1) m (upd qu K.length (nI q.1)) (by rw [List.length_append, List.length_singleton]; omega) (by omega) (by omega) (tp_QQ_add hK) (fun x hx => h44 x (List.mem_cons_of_mem _ hx)) (fun i x hx => by
        have := hR (i + 1) x (by rw [List.getElem?_cons_succ]; exact hx)
        rw [pk_un (by omega)]
        rwa [show T + (i + 1) = T + 1 + i by omega] at this) (by simpa using k)
      rw [List.length_append, List.length_singleton] at k2
      exact k2
theorem tp_flt {K R : List tp_T} {q : tp_T} (hp : (K ++ q :: R).Pairwise (fun a b => a.1 ≠ b.1)) : (K ++ q :: R).filter (fun x => decide (x.1 ≠ q.1)) = K ++ R := by
  obtain ⟨_, h2⟩ := tp_pair hp
  rw [List.filter_append, List.filter_cons_of_neg (by simp), ← List.filter_append, List.filter_eq_self]
  intro x hx
  simp [h2 x hx]
theorem tp_xleave {post : SX → Prop} {K R : List tp_T} {q : tp_T} (ho : tp_QO (K ++ q :: R)) (h : tp_QQ (K ++ q :: R) qu) (hn : ql = nI (K ++ q :: R).length)
    (k : ∀ qu' : Nat → Int32, tp_QQ (K ++ R) qu' → post (n, lv, nI (K ++ R).length, tm, tu, en, ow, ta, mk, wf, tr, lg, wk, wt, qu')) :
    wpX_leaveQueue post (n, lv, ql, tm, tu, en, ow, ta, mk, wf, tr, lg, wk, wt, qu) (nI q.1) := by
  have h4 := tp_Q4 ho
  have q4 := (ho.1 q (by simp)).1
  unfold wpX_leaveQueue
  dsimp only
  refine ⟨(K ++ q :: R).length + 1, ?_⟩
  have k2 := tp_xleave4 (post := post) (c := q.1) q4 (n := n) (lv := lv) (tm := tm) (tu := tu) (en := en) (ow := ow) (ta := ta) (mk := mk) (wf := wf) (tr := tr) (lg := lg) (wk := wk) (wt := wt) (K ++ q :: R) [] 0 ((K ++ q :: R).length + 1) qu (by simp) (by omega) (by omega) (fun i x hx => by simp at hx) (fun x hx => (ho.1 x hx).1) (fun i x hx => by
    rw [Nat.zero_add]
    exact h i x hx) (by
      rw [tp_flt ho.2]
      exact k)
  rw [Nat.zero_add, ← hn] at k2
  exact k2
end
end
section
section
variable {n lv ql tm wn : Int32} {tu en ow ta mk wf tr lg wk wt qu wo hw wa : Nat → Int32}
theorem tp_gv_t {tk : Bool} {b c w : Int32} : ∀ {L : List tp_E}, (∀ e, e ∈ L → tp_ok e) → ∀ {t : Int32} {L' : List tp_E}, tp_gv tk b c w L = some (t, L') → ∃ a : Nat, a < 256 ∧ t = nI a := by
  intro L
  induction L with
  | nil => intro _ t L' h; simp [tp_gv] at h
  | cons e B ih =>
    intro hok t L' h
    rw [tp_gv] at h
    by_cases hp : tp_P tk c w e = true
    · rw [if_pos hp] at h
      injection h with h
      injection h with h1 h2
      rw [← h1]
      exact (hok e (by simp)).1
    · rw [if_neg hp, Option.map_eq_some_iff] at h
      obtain ⟨p, hp1, hp2⟩ := h
      injection hp2 with h1 h2
      rw [← h1]
      exact ih (fun x hx => hok x (List.mem_cons_of_mem _ hx)) (L' := p.2) hp1
theorem tp_n4 {t : Int32} (h : ∃ a : Nat, a < 256 ∧ t = nI a) : ¬ t = -4 := by
  obtain ⟨a, ha, rfl⟩ := h
  exact fun z => nI_pos (n := a) (by omega) (by rw [z]; decide)
/-! one service -/
def tp_sv (tr : Nat → Int32) : List tp_T → List tp_E → (Nat → Int32) → List tp_T × List tp_E × (Nat → Int32)
  | [], L, lg => ([], L, lg)
  | q :: R, L, lg => match tp_gv (decide (q.2.1 = 1)) (tr q.1) (nI q.1) (nI q.2.2) L with
    | none => (q :: (tp_sv tr R L lg).1, (tp_sv tr R L lg).2)
    | some p => tp_sv tr R p.2 (upd lg q.1 p.1)
theorem tp_sv_n {q : tp_T} {R : List tp_T} {L : List tp_E} (h : tp_gv (decide (q.2.1 = 1)) (tr q.1) (nI q.1) (nI q.2.2) L = none) :
    tp_sv tr (q :: R) L lg = (q :: (tp_sv tr R L lg).1, (tp_sv tr R L lg).2) := by
  rw [tp_sv, h]
theorem tp_sv_s {q : tp_T} {R : List tp_T} {L L' : List tp_E} {t : Int32} (h : tp_gv (decide (q.2.1 = 1)) (tr q.1) (nI q.1) (nI q.2.2) L = some (t, L')) :
    tp_sv tr (q :: R) L lg = tp_sv tr R L' (upd lg q.1 t) := by
  rw [tp_sv, h]
theorem tp_sv_sub : ∀ (R : List tp_T) (L : List tp_E) (lg : Nat → Int32), (tp_sv tr R L lg).1.Sublist R := by
  intro R
  induction R with
  | nil => intro L lg; exact List.Sublist.refl _
  | cons q R ih =>
    intro L lg
    cases h : tp_gv (decide (q.2.1 = 1)) (tr q.1) (nI q.1) (nI q.2.2) L with
    | none =>
      rw [tp_sv_n h]
      exact (ih L lg).cons_cons q
    | some p =>
      rw [tp_sv_s (t := p.1) (L' := p.2) h]
      exact (ih _ _).cons q
theorem tp_kd {h : Nat} (hh : h < 2) : nI (h + 1) = if decide (h = 1) = true then 2 else 1 := by
  obtain rfl | rfl : h = 0 ∨ h = 1 := by omega
  · rfl
  · rfl
theorem tp_xserve4 {post : SX → Prop} : ∀ (R K : List tp_T) (L : List tp_E) (T m : Nat) (tu en ow ta mk wf lg wk qu : Nat → Int32), K.length ≤ T → T + R.length ≤ 4 → R.length < m →
    tp_X L tu en ow ta mk wf → tp_QQ K qu → tp_QO (K ++ R) → tp_K (K ++ R) wk wt →
    (∀ (i : Nat) (q : tp_T), R[i]? = some q → qu (T + i) = nI q.1) →
    (∀ tu' en' ow' ta' mk' wf' wk' qu' : Nat → Int32, tp_X (tp_sv tr R L lg).2.1 tu' en' ow' ta' mk' wf' → tp_QQ (K ++ (tp_sv tr R L lg).1) qu' → tp_K (K ++ (tp_sv tr R L lg).1) wk' wt →
      post (nI (tp_sv tr R L lg).2.1.length, lv, nI (K ++ (tp_sv tr R L lg).1).length, tm, tu', en', ow', ta', mk', wf', tr, (tp_sv tr R L lg).2.2, wk', wt, qu')) →
    wX_serve_4 post m (nI K.length) (nI T) (nI L.length) lv (nI (T + R.length)) tm tu en ow ta mk wf tr lg wk wt qu := by
  intro R
  induction R with
  | nil =>
    intro K L T m tu en ow ta mk wf lg wk qu hT h4 hm hX hK hO hW hR k
    obtain ⟨m, rfl⟩ : ∃ p, m = p + 1 := ⟨m - 1, by omega⟩
    rw [List.append_nil] at hW
    rw [tp_sv, List.append_nil] at k
    exact br_t (Int32.le_refl _) (k _ _ _ _ _ _ _ _ hX hK hW)
  | cons q R ih =>
    intro K L T m tu en ow ta mk wf lg wk qu hT h4 hm hX hK hO hW hR k
    obtain ⟨m, rfl⟩ : ∃ p, m = p + 1 := ⟨m - 1, by omega⟩
    rw [List.length_cons] at h4 hm
    have a1 : qu T = nI q.1 := hR 0 q (by simp)
    have v0 : vp_in (nI T) 4 := vp_in_nI (by omega) (by omega)
    have c0 : (nI T).toNatClampNeg = T := nI_clamp (by omega)
    have vk : vp_in (nI K.length) 4 := vp_in_nI (by omega) (by omega)
    have ck : (nI K.length).toNatClampNeg = K.length := nI_clamp (by omega)
    have hq : q ∈ K ++ q :: R := by simp
    obtain ⟨q4, qh, qw⟩ := hO.1 q hq
    obtain ⟨w1, w2⟩ := hW.1 q hq
    have vq : vp_in (nI q.1) 4 := vp_in_nI q4 (by omega)
    have cq : (nI q.1).toNatClampNeg = q.1 := nI_clamp (by omega)
    have hlen : T + (q :: R).length = (T + 1) + R.length := by rw [List.length_cons]; omega
    refine br_f (nI_ge (by rw [List.length_cons]; omega) (by rw [List.length_cons]; omega)) ⟨v0, nm_r (e' := nI q.1) (by rw [c0, a1]) ⟨vq, vq, ?_⟩⟩
    rw [cq, w1, w2, hlen]
    refine tp_xgive (tp_kd qh) q4 qw hX (fun hn => br_t rfl ⟨vk, nm_r (by rw [ck]) (nm_r (nI_1 _) (nm_r (nI_1 _) ?_))⟩)
      (fun t L' hs tu' en' ow' ta' mk' wf' hX' => br_f (tp_n4 (tp_gv_t hX.1.2.2 hs)) ⟨vq, nm_e (nm_r (nI_1 _) ?_)⟩)
    · rw [tp_sv_n hn] at k
      have k2 := ih (K ++ [q]) L (T + 1) m tu en ow ta mk wf lg wk (upd qu K.length (nI q.1)) (by rw [List.length_append, List.length_singleton]; omega) (by omega) (by omega) hX (tp_QQ_add hK) (by simpa using hO) (by simpa using hW) (fun i x hx => by
        have := hR (i + 1) x (by rw [List.getElem?_cons_succ]; exact hx)
        rw [pk_un (by omega)]
        rwa [show T + (i + 1) = T + 1 + i by omega] at this) (by simpa using k)
      rw [List.length_append, List.length_singleton] at k2
      exact k2
    · rw [tp_sv_s hs] at k
      exact ih K L' (T + 1) m tu' en' ow' ta' mk' wf' (upd lg q.1 t) (upd wk q.1 0) qu (by omega) (by omega) (by omega) hX' hK (tp_QO_rm hO) (tp_K_rm hO.2 hW) (fun i x hx => by
        have := hR (i + 1) x (by rw [List.getElem?_cons_succ]; exact hx)
        rwa [show T + (i + 1) = T + 1 + i by omega] at this) k
theorem tp_xserve {post : SX → Prop} {Q : List tp_T} {L : List tp_E} (hX : tp_X L tu en ow ta mk wf) (hQ : tp_QQ Q qu) (hO : tp_QO Q) (hK : tp_K Q wk wt)
    (k : ∀ tu' en' ow' ta' mk' wf' wk' qu' : Nat → Int32, tp_X (tp_sv tr Q L lg).2.1 tu' en' ow' ta' mk' wf' → tp_QQ (tp_sv tr Q L lg).1 qu' → tp_K (tp_sv tr Q L lg).1 wk' wt →
      post (nI (tp_sv tr Q L lg).2.1.length, lv, nI (tp_sv tr Q L lg).1.length, tm, tu', en', ow', ta', mk', wf', tr, (tp_sv tr Q L lg).2.2, wk', wt, qu')) :
    wpX_serve post (nI L.length, lv, nI Q.length, tm, tu, en, ow, ta, mk, wf, tr, lg, wk, wt, qu) := by
  have h4 := tp_Q4 hO
  unfold wpX_serve
  dsimp only
  refine ⟨Q.length + 1, ?_⟩
  have k2 := tp_xserve4 (post := post) (lv := lv) (tm := tm) (tr := tr) (wt := wt) Q [] L 0 (Q.length + 1) tu en ow ta mk wf lg wk qu (by simp) (by omega) (by omega) hX (fun i x hx => by simp at hx) hO hK (fun i x hx => by
    rw [Nat.zero_add]
    exact hQ i x hx) k
  rw [Nat.zero_add] at k2
  exact k2
theorem tp_yidle {post : SY → Prop} {k : Nat} : ∀ (d s m : Nat), s + d = 4 → d < m → post (tm, n, nI k, tu, en, ow, ta, mk, tr, lg, wo, hw, wa) → wY_serve_4 post m (nI k) (nI s) tm n (nI k) tu en ow ta mk tr lg wo hw wa := by
  intro d
  induction d with
  | zero =>
    intro s m hs hm h
    obtain ⟨m, rfl⟩ : ∃ p, m = p + 1 := ⟨m - 1, by omega⟩
    obtain rfl : s = 4 := by omega
    exact br_t (Int32.le_refl _) h
  | succ d ih =>
    intro s m hs hm h
    obtain ⟨m, rfl⟩ : ∃ p, m = p + 1 := ⟨m - 1, by omega⟩
    exact br_f (nI_ge (b := 4) (by omega) (by decide)) (br_t (Int32.le_refl _) (nm_r (nI_1 _) (ih (s + 1) m (by omega) (by omega) h)))
theorem tp_yserve4 {post : SY → Prop} : ∀ (R K : List tp_T) (L : List tp_E) (s m : Nat) (tu en ow ta mk lg wo hw wa : Nat → Int32), s + R.length ≤ 4 → 4 < m + s →
    tp_Y L tu en ow ta mk → tp_QY (K ++ R) wo hw wa → tp_QO (K ++ R) →
    (∀ tu' en' ow' ta' mk' wo' hw' wa' : Nat → Int32, tp_Y (tp_sv tr R L lg).2.1 tu' en' ow' ta' mk' → tp_QY (K ++ (tp_sv tr R L lg).1) wo' hw' wa' →
      post (tm, nI (tp_sv tr R L lg).2.1.length, nI (K ++ (tp_sv tr R L lg).1).length, tu', en', ow', ta', mk', tr, (tp_sv tr R L lg).2.2, wo', hw', wa')) →
    wY_serve_4 post m (nI K.length) (nI s) tm (nI L.length) (nI (K ++ R).length) tu en ow ta mk tr lg wo hw wa := by
  intro R
  induction R with
  | nil =>
    intro K L s m tu en ow ta mk lg wo hw wa hs hm hY hQ hO k
    rw [List.length_nil] at hs
    rw [tp_sv, List.append_nil] at k
    rw [List.append_nil] at hQ ⊢
    exact tp_yidle (4 - s) s m (by omega) (by omega) (k _ _ _ _ _ _ _ _ hY hQ)
  | cons q R ih =>
    intro K L s m tu en ow ta mk lg wo hw wa hs hm hY hQ hO k
    rw [List.length_cons] at hs
    obtain ⟨m, rfl⟩ : ∃ p, m = p + 1 := ⟨m - 1, by omega⟩
    have h4 := tp_Q4 hO
    have hlen : (K ++ q :: R).length = (K.length + R.length) + 1 := by simp; omega
    have vk : vp_in (nI K.length) 4 := vp_in_nI (by omega) (by omega)
    have ck : (nI K.length).toNatClampNeg = K.length := nI_clamp (by omega)
    have hq : q ∈ K ++ q :: R := by simp
    obtain ⟨q4, qh, qw⟩ := hO.1 q hq
    obtain ⟨a1, a2, a3⟩ := tp_QY_at hQ
    have G : ∀ kd : Int32, kd = (if decide (q.2.1 = 1) = true then 1 else 0) → wY_serve_39 post (wY_serve_4 post m) (nI K.length) (nI s) kd (nI q.1) tm (nI L.length) (nI (K ++ q :: R).length) tu en ow ta mk tr lg wo hw wa := by
      intro kd hkd
      unfold wY_serve_39
      refine ⟨vk, ?_⟩
      rw [ck, a3]
      refine tp_ygive hkd q4 hY (fun hn => br_t rfl (nm_r (nI_1 _) (nm_r (nI_1 _) ?_))) (fun t L' hv tu' en' ow' ta' mk' hY' => br_f (by decide) ?_)
      · rw [tp_sv_n hn] at k
        have k2 := ih (K ++ [q]) L (s + 1) m tu en ow ta mk lg wo hw wa (by omega) (by omega) hY (by simpa using hQ) (by simpa using hO) (by simpa using k)
        rw [List.length_append, List.length_singleton, List.append_assoc] at k2
        exact k2
      · rw [tp_sv_s hv] at k
        refine tp_ystop h4 rfl hQ (fun wo' hw' wa' hQ' => nm_r (nI_1 _) ?_)
        exact ih K L' (s + 1) m tu' en' ow' ta' mk' (upd lg q.1 t) wo' hw' wa' (by omega) (by omega) hY' hQ' (tp_QO_rm hO) k
    refine br_f (nI_ge (b := 4) (by omega) (by decide)) (br_f (nI_ge (by omega) (by omega)) ⟨vk, vk, ?_⟩)
    rw [ck, a1, a2]
    obtain z | z : q.2.1 = 0 ∨ q.2.1 = 1 := by omega
    · refine br_f ?_ (G 0 (by rw [z]; rfl))
      rw [z]
      decide
    · refine br_t ?_ (G 1 (by rw [z]; rfl))
      rw [z]
      rfl
theorem tp_yserve {post : SY → Prop} {Q : List tp_T} {L : List tp_E} (hY : tp_Y L tu en ow ta mk) (hQ : tp_QY Q wo hw wa) (hO : tp_QO Q)
    (k : ∀ tu' en' ow' ta' mk' wo' hw' wa' : Nat → Int32, tp_Y (tp_sv tr Q L lg).2.1 tu' en' ow' ta' mk' → tp_QY (tp_sv tr Q L lg).1 wo' hw' wa' →
      post (tm, nI (tp_sv tr Q L lg).2.1.length, nI (tp_sv tr Q L lg).1.length, tu', en', ow', ta', mk', tr, (tp_sv tr Q L lg).2.2, wo', hw', wa')) :
    wpY_serve post (tm, nI L.length, nI Q.length, tu, en, ow, ta, mk, tr, lg, wo, hw, wa) := by
  have h4 := tp_Q4 hO
  unfold wpY_serve
  dsimp only
  exact ⟨5, tp_yserve4 (post := post) (tm := tm) (tr := tr) Q [] L 0 5 tu en ow ta mk lg wo hw wa (by omega) (by omega) hY hQ hO k⟩
theorem tp_sv_QO {Q : List tp_T} {L : List tp_E} (h : tp_QO Q) : tp_QO (tp_sv tr Q L lg).1 :=
  ⟨fun q hq => h.1 q ((tp_sv_sub Q L lg).subset hq), h.2.sublist (tp_sv_sub Q L lg)⟩
end
end
section
section
variable {n lv ql tm wn : Int32} {tu en ow ta mk wf tr lg wk wt qu wo hw wa : Nat → Int32}
theorem tp_snoc {α : Type} : ∀ (A : List α) (d : Nat), A.length = d + 1 → ∃ A0 e, A = A0 ++ [e] ∧ A0.length = d := by
  intro A
  induction A with
  | nil => intro d h; simp at h
  | cons a A ih =>
    intro d h
    cases A with
    | nil => exact ⟨[], a, rfl, by simp at h; simp [h]⟩
    | cons b A =>
      rw [List.length_cons, List.length_cons] at h
      obtain ⟨A0, e, h1, h2⟩ := ih (d - 1) (by rw [List.length_cons]; omega)
      exact ⟨a :: A0, e, by rw [h1]; rfl, by rw [List.length_cons, h2]; omega⟩
theorem tp_pm (x : Int32) : x + (-1) = x - 1 := (Int32.sub_eq_add_neg x 1).symm
theorem tp_ln {A : List tp_E} {e : tp_E} : nI (A ++ [e]).length - 1 = nI A.length := by rw [List.length_append, List.length_singleton, nI_pred]
theorem tp_l0 : nI ([] : List tp_E).length - 1 < 0 := by decide
theorem tp_cons {A B : List tp_E} {e : tp_E} : A ++ [e] ++ B = A ++ e :: B := by simp
theorem tp_xrt7 {post : SX → Prop} {c : Int32} : ∀ (d : Nat) (A B : List tp_E) (m : Nat) (x2 : Int32) (tu en ow ta mk wf : Nat → Int32), A.length = d → x2 = nI A.length - 1 → d < m → tp_X (A ++ B) tu en ow ta mk wf →
    (∀ tu' en' ow' ta' mk' wf' : Nat → Int32, tp_X (A.filter (fun e => decide (e.2.2.2.1 ≠ c)) ++ B) tu' en' ow' ta' mk' wf' → post (nI (A.filter (fun e => decide (e.2.2.2.1 ≠ c)) ++ B).length, lv, ql, tm, tu', en', ow', ta', mk', wf', tr, lg, wk, wt, qu)) →
    wX_removeTakenBy_7 post c m x2 (nI (A ++ B).length) lv ql tm tu en ow ta mk wf tr lg wk wt qu := by
  intro d
  induction d with
  | zero =>
    intro A B m x2 tu en ow ta mk wf hA hx hm hX k
    obtain ⟨m, rfl⟩ : ∃ p, m = p + 1 := ⟨m - 1, by omega⟩
    obtain rfl : A = [] := List.eq_nil_of_length_eq_zero hA
    exact br_t (by rw [hx]; exact tp_l0) (k _ _ _ _ _ _ hX)
  | succ d ih =>
    intro A B m x2 tu en ow ta mk wf hA hx hm hX k
    obtain ⟨m, rfl⟩ : ∃ p, m = p + 1 := ⟨m - 1, by omega⟩
    obtain ⟨A, e, rfl, hd⟩ := tp_snoc A d hA
    rw [tp_ln] at hx
    subst hx
    rw [tp_cons] at hX ⊢
    have hlen : (A ++ e :: B).length = (A.length + B.length) + 1 := by simp; omega
    have h20 := hX.1.1
    have v0 : vp_in (nI A.length) 20 := vp_in_nI (by omega) (by omega)
    have c0 : (nI A.length).toNatClampNeg = A.length := nI_clamp (by omega)
    obtain ⟨a1, a2, a3, a4, a5⟩ := tp_A_at hX.1.2.1
    rw [List.filter_append] at k
    refine br_f (nI_pos (by omega)) ⟨v0, ?_⟩
    rw [c0, a4]
    refine br_c (fun z => tp_xrm rfl hX (fun tu' en' ow' ta' mk' wf' hX' => nm_r (tp_pm _) ?_)) (fun z => nm_r (tp_pm _) ?_)
    · rw [List.filter_cons_of_neg (by simp [z]), List.filter_nil, List.append_nil] at k
      exact ih A B m _ tu' en' ow' ta' mk' wf' hd rfl (by omega) hX' k
    · rw [List.filter_cons_of_pos (by simp [z]), List.filter_nil, List.append_assoc] at k
      exact ih A (e :: B) m _ tu en ow ta mk wf hd rfl (by omega) hX k
theorem tp_xrt {post : SX → Prop} {c : Int32} {L : List tp_E} (hX : tp_X L tu en ow ta mk wf)
    (k : ∀ tu' en' ow' ta' mk' wf' : Nat → Int32, tp_X (L.filter (fun e => decide (e.2.2.2.1 ≠ c))) tu' en' ow' ta' mk' wf' → post (nI (L.filter (fun e => decide (e.2.2.2.1 ≠ c))).length, lv, ql, tm, tu', en', ow', ta', mk', wf', tr, lg, wk, wt, qu)) :
    wpX_removeTakenBy post (nI L.length, lv, ql, tm, tu, en, ow, ta, mk, wf, tr, lg, wk, wt, qu) c := by
  unfold wpX_removeTakenBy
  dsimp only
  have k2 := tp_xrt7 (post := post) (c := c) (lv := lv) (ql := ql) (tm := tm) (tr := tr) (lg := lg) (wk := wk) (wt := wt) (qu := qu) L.length L [] (L.length + 1) _ tu en ow ta mk wf rfl rfl (by omega) (by rw [List.append_nil]; exact hX) (by rw [List.append_nil]; exact k)
  rw [List.append_nil] at k2
  exact nm_e ⟨L.length + 1, k2⟩
theorem tp_xro7 {post : SX → Prop} {c : Int32} : ∀ (d : Nat) (A B : List tp_E) (m : Nat) (x2 : Int32) (tu en ow ta mk wf : Nat → Int32), A.length = d → x2 = nI A.length - 1 → d < m → tp_X (A ++ B) tu en ow ta mk wf →
    (∀ tu' en' ow' ta' mk' wf' : Nat → Int32, tp_X (A.filter (fun e => decide (e.2.2.1 ≠ c)) ++ B) tu' en' ow' ta' mk' wf' → post (nI (A.filter (fun e => decide (e.2.2.1 ≠ c)) ++ B).length, lv, ql, tm, tu', en', ow', ta', mk', wf', tr, lg, wk, wt, qu)) →
    wX_removeOwnedBy_7 post c m x2 (nI (A ++ B).length) lv ql tm tu en ow ta mk wf tr lg wk wt qu := by
  intro d
  induction d with
  | zero =>
    intro A B m x2 tu en ow ta mk wf hA hx hm hX k
    obtain ⟨m, rfl⟩ : ∃ p, m = p + 1 := ⟨m - 1, by omega⟩
    obtain rfl : A = [] := List.eq_nil_of_length_eq_zero hA
    exact br_t (by rw [hx]; exact tp_l0) (k _ _ _ _ _ _ hX)
  | succ d ih =>
    intro A B m x2 tu en ow ta mk wf hA hx hm hX k
    obtain ⟨m, rfl⟩ : ∃ p, m = p + 1 := ⟨m - 1, by omega⟩
    obtain ⟨A, e, rfl, hd⟩ := tp_snoc A d hA
    rw [tp_ln] at hx
    subst hx
    rw [tp_cons] at hX ⊢
    have hlen : (A ++ e :: B).length = (A.length + B.length) + 1 := by simp; omega
    have h20 := hX.1.1
    have v0 : vp_in (nI A.length) 20 := vp_in_nI (by omega) (by omega)
    have c0 : (nI A.length).toNatClampNeg = A.length := nI_clamp (by omega)
    obtain ⟨a1, a2, a3, a4, a5⟩ := tp_A_at hX.1.2.1
    rw [List.filter_append] at k
    refine br_f (nI_pos (by omega)) ⟨v0, ?_⟩
    rw [c0, a3]
    refine br_c (fun z => tp_xrm rfl hX (fun tu' en' ow' ta' mk' wf' hX' => nm_r (tp_pm _) ?_)) (fun z => nm_r (tp_pm _) ?_)
    · rw [List.filter_cons_of_neg (by simp [z]), List.filter_nil, List.append_nil] at k
      exact ih A B m _ tu' en' ow' ta' mk' wf' hd rfl (by omega) hX' k
    · rw [List.filter_cons_of_pos (by simp [z]), List.filter_nil, List.append_assoc] at k
      exact ih A (e :: B) m _ tu en ow ta mk wf hd rfl (by omega) hX k
theorem tp_xro {post : SX → Prop} {c : Int32} {L : List tp_E} (hX : tp_X L tu en ow ta mk wf)
    (k : ∀ tu' en' ow' ta' mk' wf' : Nat → Int32, tp_X (L.filter (fun e => decide (e.2.2.1 ≠ c))) tu' en' ow' ta' mk' wf' → post (nI (L.filter (fun e => decide (e.2.2.1 ≠ c))).length, lv, ql, tm, tu', en', ow', ta', mk', wf', tr, lg, wk, wt, qu)) :
    wpX_removeOwnedBy post (nI L.length, lv, ql, tm, tu, en, ow, ta, mk, wf, tr, lg, wk, wt, qu) c := by
  unfold wpX_removeOwnedBy
  dsimp only
  have k2 := tp_xro7 (post := post) (c := c) (lv := lv) (ql := ql) (tm := tm) (tr := tr) (lg := lg) (wk := wk) (wt := wt) (qu := qu) L.length L [] (L.length + 1) _ tu en ow ta mk wf rfl rfl (by omega) (by rw [List.append_nil]; exact hX) (by rw [List.append_nil]; exact k)
  rw [List.append_nil] at k2
  exact nm_e ⟨L.length + 1, k2⟩
def tp_nd (tm : Int32) (e : tp_E) : Bool := decide (e.2.1 = -1 ∨ tm < e.2.1)
theorem tp_xre9 {post : Int32 → SX → Prop} : ∀ (d : Nat) (A B : List tp_E) (m g : Nat) (x2 : Int32) (tu en ow ta mk wf : Nat → Int32), A.length = d → x2 = nI A.length - 1 → d < m → tp_X (A ++ B) tu en ow ta mk wf →
    (∀ tu' en' ow' ta' mk' wf' : Nat → Int32, tp_X (A.filter (tp_nd tm) ++ B) tu' en' ow' ta' mk' wf' → post (nI (g + (A.length - (A.filter (tp_nd tm)).length))) (nI (A.filter (tp_nd tm) ++ B).length, lv, ql, tm, tu', en', ow', ta', mk', wf', tr, lg, wk, wt, qu)) →
    wX_removeEnded_9 post m (nI g) x2 (nI (A ++ B).length) lv ql tm tu en ow ta mk wf tr lg wk wt qu := by
  intro d
  induction d with
  | zero =>
    intro A B m g x2 tu en ow ta mk wf hA hx hm hX k
    obtain ⟨m, rfl⟩ : ∃ p, m = p + 1 := ⟨m - 1, by omega⟩
    obtain rfl : A = [] := List.eq_nil_of_length_eq_zero hA
    exact br_t (by rw [hx]; exact tp_l0) (k _ _ _ _ _ _ hX)
  | succ d ih =>
    intro A B m g x2 tu en ow ta mk wf hA hx hm hX k
    obtain ⟨m, rfl⟩ : ∃ p, m = p + 1 := ⟨m - 1, by omega⟩
    obtain ⟨A, e, rfl, hd⟩ := tp_snoc A d hA
    rw [tp_ln] at hx
    subst hx
    rw [tp_cons] at hX ⊢
    have hlen : (A ++ e :: B).length = (A.length + B.length) + 1 := by simp; omega
    have h20 := hX.1.1
    have v0 : vp_in (nI A.length) 20 := vp_in_nI (by omega) (by omega)
    have c0 : (nI A.length).toNatClampNeg = A.length := nI_clamp (by omega)
    obtain ⟨a1, a2, a3, a4, a5⟩ := tp_A_at hX.1.2.1
    have hle := List.length_filter_le (tp_nd tm) A
    have keep : tp_nd tm e = true → ∀ y, y = nI A.length + (-1) → wX_removeEnded_9 post m (nI g) y (nI (A ++ e :: B).length) lv ql tm tu en ow ta mk wf tr lg wk wt qu := by
      intro hk
      refine nm_r (tp_pm _) (ih A (e :: B) m g _ tu en ow ta mk wf hd rfl (by omega) hX ?_)
      have ea : (A ++ [e]).filter (tp_nd tm) ++ B = A.filter (tp_nd tm) ++ e :: B := by rw [List.filter_append, List.filter_cons_of_pos hk]; simp
      have eb : (A ++ [e]).length - ((A ++ [e]).filter (tp_nd tm)).length = A.length - (A.filter (tp_nd tm)).length := by rw [List.filter_append, List.filter_cons_of_pos hk]; simp
      rw [ea, eb] at k
      exact k
    refine br_f (nI_pos (by omega)) ⟨v0, ?_⟩
    rw [c0, a2]
    refine br_c (fun z => keep (by simp [tp_nd, z])) (fun z => ⟨v0, br_c (fun y => keep (by simp [tp_nd, y])) (fun y => tp_xrm rfl hX (fun tu' en' ow' ta' mk' wf' hX' => nm_r (nI_1 _) (nm_r (tp_pm _) ?_)))⟩)
    have hk : ¬ tp_nd tm e = true := by
      rw [tp_nd, decide_eq_true_eq]
      exact fun x => x.elim z y
    refine ih A B m (g + 1) _ tu' en' ow' ta' mk' wf' hd rfl (by omega) hX' ?_
    have ea : (A ++ [e]).filter (tp_nd tm) ++ B = A.filter (tp_nd tm) ++ B := by rw [List.filter_append, List.filter_cons_of_neg hk]; simp
    have eb : g + ((A ++ [e]).length - ((A ++ [e]).filter (tp_nd tm)).length) = g + 1 + (A.length - (A.filter (tp_nd tm)).length) := by
      rw [List.filter_append, List.filter_cons_of_neg hk, List.filter_nil, List.append_nil, List.length_append, List.length_singleton]
      omega
    rw [ea, eb] at k
    exact k
theorem tp_xre {post : Int32 → SX → Prop} {L : List tp_E} (hX : tp_X L tu en ow ta mk wf)
    (k : ∀ tu' en' ow' ta' mk' wf' : Nat → Int32, tp_X (L.filter (tp_nd tm)) tu' en' ow' ta' mk' wf' → post (nI (L.length - (L.filter (tp_nd tm)).length)) (nI (L.filter (tp_nd tm)).length, lv, ql, tm, tu', en', ow', ta', mk', wf', tr, lg, wk, wt, qu)) :
    wpX_removeEnded post (nI L.length, lv, ql, tm, tu, en, ow, ta, mk, wf, tr, lg, wk, wt, qu) := by
  unfold wpX_removeEnded
  dsimp only
  have k2 := tp_xre9 (post := post) (lv := lv) (ql := ql) (tm := tm) (tr := tr) (lg := lg) (wk := wk) (wt := wt) (qu := qu) L.length L [] (L.length + 1) 0 _ tu en ow ta mk wf rfl rfl (by omega) (by rw [List.append_nil]; exact hX) (by rw [List.append_nil, Nat.zero_add]; exact k)
  rw [List.append_nil] at k2
  exact nm_e ⟨L.length + 1, k2⟩
theorem tp_ypass35 {post : Int32 → SY → Prop} {Q : List tp_T} {N : Nat} (hN : N ≤ 20) (hQ : tp_QY Q wo hw wa) (hO : tp_QO Q) : ∀ (d : Nat) (A B : List tp_E) (m : Nat) (x3 : Int32) (tu en ow ta mk : Nat → Int32), A.length = d → x3 = nI A.length - 1 → d < m → tp_Y (A ++ B) tu en ow ta mk → (A.filter (tp_nd tm) ++ B).length ≤ N →
    (∀ tu' en' ow' ta' mk' wo' hw' wa' : Nat → Int32, tp_Y (tp_sv tr Q (A.filter (tp_nd tm) ++ B) lg).2.1 tu' en' ow' ta' mk' → tp_QY (tp_sv tr Q (A.filter (tp_nd tm) ++ B) lg).1 wo' hw' wa' →
      post (nI (N - (A.filter (tp_nd tm) ++ B).length)) (tm, nI (tp_sv tr Q (A.filter (tp_nd tm) ++ B) lg).2.1.length, nI (tp_sv tr Q (A.filter (tp_nd tm) ++ B) lg).1.length, tu', en', ow', ta', mk', tr, (tp_sv tr Q (A.filter (tp_nd tm) ++ B) lg).2.2, wo', hw', wa')) →
    wY_pass_35 post (nI N) m x3 tm (nI (A ++ B).length) (nI Q.length) tu en ow ta mk tr lg wo hw wa := by
  intro d
  induction d with
  | zero =>
    intro A B m x3 tu en ow ta mk hA hx hm hY hF k
    obtain ⟨m, rfl⟩ : ∃ p, m = p + 1 := ⟨m - 1, by omega⟩
    obtain rfl : A = [] := List.eq_nil_of_length_eq_zero hA
    exact br_t (by rw [hx]; exact tp_l0) (nm_r (pk_sub hF) (tp_yserve hY hQ hO k))
  | succ d ih =>
    intro A B m x3 tu en ow ta mk hA hx hm hY hF k
    obtain ⟨m, rfl⟩ : ∃ p, m = p + 1 := ⟨m - 1, by omega⟩
    obtain ⟨A, e, rfl, hd⟩ := tp_snoc A d hA
    rw [tp_ln] at hx
    subst hx
    rw [tp_cons] at hY ⊢
    have hlen : (A ++ e :: B).length = (A.length + B.length) + 1 := by simp; omega
    have h20 := hY.1
    have v0 : vp_in (nI A.length) 20 := vp_in_nI (by omega) (by omega)
    have c0 : (nI A.length).toNatClampNeg = A.length := nI_clamp (by omega)
    obtain ⟨a1, a2, a3, a4, a5⟩ := tp_A_at hY.2.1
    have t1 := (tp_neg (tp_okL hY.2.2).2.1).1
    have keep : tp_nd tm e = true → ∀ y, y = nI A.length + (-1) → wY_pass_35 post (nI N) m y tm (nI (A ++ e :: B).length) (nI Q.length) tu en ow ta mk tr lg wo hw wa := by
      intro hk
      have ea : (A ++ [e]).filter (tp_nd tm) ++ B = A.filter (tp_nd tm) ++ e :: B := by rw [List.filter_append, List.filter_cons_of_pos hk]; simp
      rw [ea] at k hF
      exact nm_r (tp_pm _) (ih A (e :: B) m _ tu en ow ta mk hd rfl (by omega) hY hF k)
    refine br_f (nI_pos (by omega)) ⟨v0, ?_⟩
    rw [c0, a2]
    refine br_c (fun z => keep (by simp [tp_nd, t1.mp z])) (fun z => ⟨v0, br_c (fun y => keep (by simp [tp_nd, y])) (fun y => tp_yrm rfl hY (fun tu' en' ow' ta' mk' hY' => nm_r (tp_pm _) ?_))⟩)
    have hk : ¬ tp_nd tm e = true := by
      rw [tp_nd, decide_eq_true_eq]
      exact fun x => x.elim (fun q => z (t1.mpr q)) y
    have ea : (A ++ [e]).filter (tp_nd tm) ++ B = A.filter (tp_nd tm) ++ B := by rw [List.filter_append, List.filter_cons_of_neg hk]; simp
    rw [ea] at k hF
    exact ih A B m _ tu' en' ow' ta' mk' hd rfl (by omega) hY' hF k
end
end
section
section
variable {n lv ql tm wn : Int32} {tu en ow ta mk wf tr lg wk wt qu wo hw wa : Nat → Int32}
/-! what the end of a transaction makes of an entry -/
def tp_cm (c : Int32) (e : tp_E) : tp_E := (e.1, e.2.1, e.2.2.1, e.2.2.2.1, e.2.2.2.2 &&& (((1 : Int32) <<< (c &&& 31)) ^^^ (-1)))
def tp_co (c : Int32) (e : tp_E) : tp_E := (e.1, e.2.1, if e.2.2.1 = c then -1 else e.2.2.1, e.2.2.2.1, e.2.2.2.2)
def tp_ct (c : Int32) (e : tp_E) : tp_E := (e.1, e.2.1, e.2.2.1, if e.2.2.2.1 = c then -1 else e.2.2.2.1, e.2.2.2.2)
def tp_cl (c : Int32) (e : tp_E) : tp_E := (e.1, e.2.1, if e.2.2.1 = c then -1 else e.2.2.1, if e.2.2.2.1 = c then -1 else e.2.2.2.1, e.2.2.2.2 &&& (((1 : Int32) <<< (c &&& 31)) ^^^ (-1)))
theorem tp_c1 {c x : Int32} (h : x = -1 ∨ 0 ≤ x) : (if x = c then -1 else x) = -1 ∨ 0 ≤ (if x = c then -1 else x) := by
  by_cases z : x = c
  · rw [if_pos z]; exact Or.inl rfl
  · rw [if_neg z]; exact h
theorem tp_ok_cm {c : Int32} {e : tp_E} (h : tp_ok e) : tp_ok (tp_cm c e) := h
theorem tp_ok_co {c : Int32} {e : tp_E} (h : tp_ok e) : tp_ok (tp_co c e) := ⟨h.1, h.2.1, tp_c1 h.2.2.1, h.2.2.2⟩
theorem tp_ok_ct {c : Int32} {e : tp_E} (h : tp_ok e) : tp_ok (tp_ct c e) := ⟨h.1, h.2.1, h.2.2.1, tp_c1 h.2.2.2⟩
theorem tp_ok_cl {c : Int32} {e : tp_E} (h : tp_ok e) : tp_ok (tp_cl c e) := ⟨h.1, h.2.1, tp_c1 h.2.2.1, tp_c1 h.2.2.2⟩
theorem tp_cc {c : Int32} {L : List tp_E} : ((L.filter (fun e => decide (e.2.2.2.1 ≠ c))).map (tp_co c)).map (tp_cm c) = (L.filter (fun e => decide (e.2.2.2.1 ≠ c))).map (tp_cl c) := by
  rw [List.map_map]
  refine List.map_congr_left (fun e he => ?_)
  have h1 : e.2.2.2.1 ≠ c := by
    have := (List.mem_filter.mp he).2
    simpa using this
  simp [tp_cm, tp_co, tp_cl, h1]
theorem tp_ca {c : Int32} {L : List tp_E} : ((L.filter (fun e => decide (e.2.2.1 ≠ c))).map (tp_ct c)).map (tp_cm c) = (L.filter (fun e => decide (e.2.2.1 ≠ c))).map (tp_cl c) := by
  rw [List.map_map]
  refine List.map_congr_left (fun e he => ?_)
  have h1 : e.2.2.1 ≠ c := by
    have := (List.mem_filter.mp he).2
    simpa using this
  simp [tp_cm, tp_ct, tp_cl, h1]
theorem tp_W_set {A B : List tp_E} {e e' : tp_E} (h : tp_W (A ++ e :: B) wf) (he : e'.1 = e.1) : tp_W (A ++ e' :: B) wf := tp_W_cg h (by simp [he])
theorem tp_xclose2 {post : SX → Prop} {c : Nat} (hc : c < 4) : ∀ (R A : List tp_E) (m : Nat) (mk : Nat → Int32), R.length < m → tp_X (A ++ R) tu en ow ta mk wf →
    (∀ mk' : Nat → Int32, tp_X (A ++ R.map (tp_cm (nI c))) tu en ow ta mk' wf → post (nI (A ++ R.map (tp_cm (nI c))).length, lv, ql, tm, tu, en, ow, ta, mk', wf, upd tr c (vp_nar .boolean 0), lg, wk, wt, qu)) →
    wX_closeTransaction_2 post (nI c) (nI (A ++ R).length) lv ql tm m (nI A.length) tu en ow ta mk wf tr lg wk wt qu := by
  intro R
  induction R with
  | nil =>
    intro A m mk hm hX k
    obtain ⟨m, rfl⟩ : ∃ p, m = p + 1 := ⟨m - 1, by omega⟩
    rw [List.append_nil] at hX ⊢
    rw [List.map_nil, List.append_nil] at k
    exact br_t (Int32.le_refl _) ⟨vp_in_nI hc (by omega), nm_r (by rw [nI_clamp (by omega)]) (k mk hX)⟩
  | cons e R ih =>
    intro A m mk hm hX k
    obtain ⟨m, rfl⟩ : ∃ p, m = p + 1 := ⟨m - 1, by omega⟩
    rw [List.length_cons] at hm
    obtain ⟨⟨h20, hA, hok⟩, hW⟩ := id hX
    have hlen : (A ++ e :: R).length = (A.length + R.length) + 1 := by simp; omega
    have v0 : vp_in (nI A.length) 20 := vp_in_nI (by omega) (by omega)
    have c0 : (nI A.length).toNatClampNeg = A.length := nI_clamp (by omega)
    obtain ⟨a1, a2, a3, a4, a5⟩ := tp_A_at hA
    refine br_f (nI_ge (by omega) (by omega)) ⟨v0, v0, nm_r (by rw [c0, a5]) (nm_r (nI_1 _) ?_)⟩
    have hX2 : tp_X (A ++ tp_cm (nI c) e :: R) tu en ow ta (upd mk A.length (e.2.2.2.2 &&& (((1 : Int32) <<< (nI c &&& 31)) ^^^ (-1)))) wf :=
      ⟨⟨by simp at h20 ⊢; omega, tp_A_set _ hA ⟨a1, a2, a3, a4, pk_us⟩ (fun i hi => ⟨rfl, rfl, rfl, rfl, pk_un hi⟩), tp_okS hok (tp_ok_cm (tp_okL hok))⟩, tp_W_set hW rfl⟩
    have k2 := ih (A ++ [tp_cm (nI c) e]) m _ (by omega) (by rw [tp_cons]; exact hX2) (by simpa using k)
    rw [tp_cons, List.length_append (as := A) (bs := [_]), List.length_singleton] at k2
    rw [show (A ++ e :: R).length = (A ++ tp_cm (nI c) e :: R).length by simp]
    exact k2
theorem tp_xclose {post : SX → Prop} {c : Nat} (hc : c < 4) {L : List tp_E} (hX : tp_X L tu en ow ta mk wf)
    (k : ∀ mk' : Nat → Int32, tp_X (L.map (tp_cm (nI c))) tu en ow ta mk' wf → post (nI (L.map (tp_cm (nI c))).length, lv, ql, tm, tu, en, ow, ta, mk', wf, upd tr c (vp_nar .boolean 0), lg, wk, wt, qu)) :
    wpX_closeTransaction post (nI L.length, lv, ql, tm, tu, en, ow, ta, mk, wf, tr, lg, wk, wt, qu) (nI c) := by
  unfold wpX_closeTransaction
  dsimp only
  exact ⟨L.length + 1, tp_xclose2 hc L [] (L.length + 1) mk (by omega) hX k⟩
theorem tp_xcommit17 {post : Int32 → SX → Prop} {c : Nat} (hc : c < 4) {Q : List tp_T} (hQ : tp_QQ Q qu) (hO : tp_QO Q) (hK : tp_K Q wk wt) : ∀ (R A : List tp_E) (m : Nat) (ow : Nat → Int32), R.length < m → tp_X (A ++ R) tu en ow ta mk wf →
    (∀ tu' en' ow' ta' mk' wf' wk' qu' : Nat → Int32, tp_X (tp_sv (upd tr c (vp_nar .boolean 0)) Q ((A ++ R.map (tp_co (nI c))).map (tp_cm (nI c))) lg).2.1 tu' en' ow' ta' mk' wf' → tp_QQ (tp_sv (upd tr c (vp_nar .boolean 0)) Q ((A ++ R.map (tp_co (nI c))).map (tp_cm (nI c))) lg).1 qu' → tp_K (tp_sv (upd tr c (vp_nar .boolean 0)) Q ((A ++ R.map (tp_co (nI c))).map (tp_cm (nI c))) lg).1 wk' wt →
      post 1 (nI (tp_sv (upd tr c (vp_nar .boolean 0)) Q ((A ++ R.map (tp_co (nI c))).map (tp_cm (nI c))) lg).2.1.length, lv, nI (tp_sv (upd tr c (vp_nar .boolean 0)) Q ((A ++ R.map (tp_co (nI c))).map (tp_cm (nI c))) lg).1.length, tm, tu', en', ow', ta', mk', wf', upd tr c (vp_nar .boolean 0), (tp_sv (upd tr c (vp_nar .boolean 0)) Q ((A ++ R.map (tp_co (nI c))).map (tp_cm (nI c))) lg).2.2, wk', wt, qu')) →
    wX_commit_17 post (nI c) (nI (A ++ R).length) lv (nI Q.length) tm m (nI A.length) tu en ow ta mk wf tr lg wk wt qu := by
  intro R
  induction R with
  | nil =>
    intro A m ow hm hX k
    obtain ⟨m, rfl⟩ : ∃ p, m = p + 1 := ⟨m - 1, by omega⟩
    rw [List.append_nil] at hX ⊢
    rw [List.map_nil, List.append_nil] at k
    exact br_t (Int32.le_refl _) (tp_xclose hc hX (fun mk' hX' => tp_xserve hX' hQ hO hK k))
  | cons e R ih =>
    intro A m ow hm hX k
    obtain ⟨m, rfl⟩ : ∃ p, m = p + 1 := ⟨m - 1, by omega⟩
    rw [List.length_cons] at hm
    obtain ⟨⟨h20, hA, hok⟩, hW⟩ := id hX
    have hlen : (A ++ e :: R).length = (A.length + R.length) + 1 := by simp; omega
    have v0 : vp_in (nI A.length) 20 := vp_in_nI (by omega) (by omega)
    have c0 : (nI A.length).toNatClampNeg = A.length := nI_clamp (by omega)
    obtain ⟨a1, a2, a3, a4, a5⟩ := tp_A_at hA
    have K : ∀ ow' : Nat → Int32, tp_X (A ++ tp_co (nI c) e :: R) tu en ow' ta mk wf → wX_commit_17 post (nI c) (nI (A ++ e :: R).length) lv (nI Q.length) tm m (nI (A.length + 1)) tu en ow' ta mk wf tr lg wk wt qu := by
      intro ow' hX2
      have k2 := ih (A ++ [tp_co (nI c) e]) m _ (by omega) (by rw [tp_cons]; exact hX2) (by rw [List.append_assoc]; exact k)
      rw [tp_cons, List.length_append (as := A) (bs := [_]), List.length_singleton] at k2
      rw [show (A ++ e :: R).length = (A ++ tp_co (nI c) e :: R).length by simp]
      exact k2
    refine br_f (nI_ge (by omega) (by omega)) ⟨v0, ?_⟩
    rw [c0, a3]
    refine br_c (fun z => ⟨v0, nm_e (nm_r (nI_1 _) (K _ ?_))⟩) (fun z => nm_r (nI_1 _) (K _ ?_))
    · exact ⟨⟨by simp at h20 ⊢; omega, tp_A_set _ hA ⟨a1, a2, by simp [tp_co, z, upd], a4, a5⟩ (fun i hi => ⟨rfl, rfl, pk_un hi, rfl, rfl⟩), tp_okS hok (tp_ok_co (tp_okL hok))⟩, tp_W_set hW rfl⟩
    · have he : tp_co (nI c) e = e := by simp [tp_co, z]
      rw [he]
      exact hX
theorem tp_xabort17 {post : Int32 → SX → Prop} {c : Nat} (hc : c < 4) {Q : List tp_T} (hQ : tp_QQ Q qu) (hO : tp_QO Q) (hK : tp_K Q wk wt) : ∀ (R A : List tp_E) (m : Nat) (ta : Nat → Int32), R.length < m → tp_X (A ++ R) tu en ow ta mk wf →
    (∀ tu' en' ow' ta' mk' wf' wk' qu' : Nat → Int32, tp_X (tp_sv (upd tr c (vp_nar .boolean 0)) Q ((A ++ R.map (tp_ct (nI c))).map (tp_cm (nI c))) lg).2.1 tu' en' ow' ta' mk' wf' → tp_QQ (tp_sv (upd tr c (vp_nar .boolean 0)) Q ((A ++ R.map (tp_ct (nI c))).map (tp_cm (nI c))) lg).1 qu' → tp_K (tp_sv (upd tr c (vp_nar .boolean 0)) Q ((A ++ R.map (tp_ct (nI c))).map (tp_cm (nI c))) lg).1 wk' wt →
      post 1 (nI (tp_sv (upd tr c (vp_nar .boolean 0)) Q ((A ++ R.map (tp_ct (nI c))).map (tp_cm (nI c))) lg).2.1.length, lv, nI (tp_sv (upd tr c (vp_nar .boolean 0)) Q ((A ++ R.map (tp_ct (nI c))).map (tp_cm (nI c))) lg).1.length, tm, tu', en', ow', ta', mk', wf', upd tr c (vp_nar .boolean 0), (tp_sv (upd tr c (vp_nar .boolean 0)) Q ((A ++ R.map (tp_ct (nI c))).map (tp_cm (nI c))) lg).2.2, wk', wt, qu')) →
    wX_abort_17 post (nI c) (nI (A ++ R).length) lv (nI Q.length) tm m (nI A.length) tu en ow ta mk wf tr lg wk wt qu := by
  intro R
  induction R with
  | nil =>
    intro A m ta hm hX k
    obtain ⟨m, rfl⟩ : ∃ p, m = p + 1 := ⟨m - 1, by omega⟩
    rw [List.append_nil] at hX ⊢
    rw [List.map_nil, List.append_nil] at k
    exact br_t (Int32.le_refl _) (tp_xclose hc hX (fun mk' hX' => tp_xserve hX' hQ hO hK k))
  | cons e R ih =>
    intro A m ta hm hX k
    obtain ⟨m, rfl⟩ : ∃ p, m = p + 1 := ⟨m - 1, by omega⟩
    rw [List.length_cons] at hm
    obtain ⟨⟨h20, hA, hok⟩, hW⟩ := id hX
    have hlen : (A ++ e :: R).length = (A.length + R.length) + 1 := by simp; omega
    have v0 : vp_in (nI A.length) 20 := vp_in_nI (by omega) (by omega)
    have c0 : (nI A.length).toNatClampNeg = A.length := nI_clamp (by omega)
    obtain ⟨a1, a2, a3, a4, a5⟩ := tp_A_at hA
    have K : ∀ ta' : Nat → Int32, tp_X (A ++ tp_ct (nI c) e :: R) tu en ow ta' mk wf → wX_abort_17 post (nI c) (nI (A ++ e :: R).length) lv (nI Q.length) tm m (nI (A.length + 1)) tu en ow ta' mk wf tr lg wk wt qu := by
      intro ta' hX2
      have k2 := ih (A ++ [tp_ct (nI c) e]) m _ (by omega) (by rw [tp_cons]; exact hX2) (by rw [List.append_assoc]; exact k)
      rw [tp_cons, List.length_append (as := A) (bs := [_]), List.length_singleton] at k2
      rw [show (A ++ e :: R).length = (A ++ tp_ct (nI c) e :: R).length by simp]
      exact k2
    refine br_f (nI_ge (by omega) (by omega)) ⟨v0, ?_⟩
    rw [c0, a4]
    refine br_c (fun z => ⟨v0, nm_e (nm_r (nI_1 _) (K _ ?_))⟩) (fun z => nm_r (nI_1 _) (K _ ?_))
    · exact ⟨⟨by simp at h20 ⊢; omega, tp_A_set _ hA ⟨a1, a2, a3, by simp [tp_ct, z, upd], a5⟩ (fun i hi => ⟨rfl, rfl, rfl, pk_un hi, rfl⟩), tp_okS hok (tp_ok_ct (tp_okL hok))⟩, tp_W_set hW rfl⟩
    · have he : tp_ct (nI c) e = e := by simp [tp_ct, z]
      rw [he]
      exact hX
/-! the reference's end of a transaction -/
theorem tp_yfin136 {post : Int32 → SY → Prop} {J : Int32 → Int32 → Int32 → Int32 → (Nat → Int32) → (Nat → Int32) → (Nat → Int32) → (Nat → Int32) → (Nat → Int32) → (Nat → Int32) → (Nat → Int32) → (Nat → Int32) → (Nat → Int32) → (Nat → Int32) → Prop} {A B : List tp_E} {e : tp_E} {c x2 z0 : Int32}
    (hY : tp_Y (A ++ e :: B) tu en ow ta mk)
    (k0 : z0 = 0 → J (nI A.length - 1) tm (nI (A ++ e :: B).length) wn tu en ow ta mk tr lg wo hw wa)
    (k1 : ¬ z0 = 0 → ∀ tu' en' ow' ta' mk' : Nat → Int32, tp_Y (A ++ B) tu' en' ow' ta' mk' → J (nI A.length - 1) tm (nI (A ++ B).length) wn tu' en' ow' ta' mk' tr lg wo hw wa) :
    wY_finish_136 post J c x2 (nI A.length) z0 tm (nI (A ++ e :: B).length) wn tu en ow ta mk tr lg wo hw wa := by
  unfold wY_finish_136
  exact br_c (fun z => nm_r (tp_pm _) (k0 z)) (fun z => tp_yrm rfl hY (fun tu' en' ow' ta' mk' hY' => nm_r (tp_pm _) (k1 z _ _ _ _ _ hY')))
theorem tp_yfin82 {post : Int32 → SY → Prop} {J : Int32 → Int32 → Int32 → Int32 → (Nat → Int32) → (Nat → Int32) → (Nat → Int32) → (Nat → Int32) → (Nat → Int32) → (Nat → Int32) → (Nat → Int32) → (Nat → Int32) → (Nat → Int32) → (Nat → Int32) → Prop} {A B : List tp_E} {e : tp_E} {c x2 z0 : Int32}
    (hY : tp_Y (A ++ e :: B) tu en ow ta mk)
    (k0 : z0 = 0 → ∀ tu' en' ow' ta' mk' : Nat → Int32, tp_Y (A ++ tp_cl c e :: B) tu' en' ow' ta' mk' → J (nI A.length - 1) tm (nI (A ++ tp_cl c e :: B).length) wn tu' en' ow' ta' mk' tr lg wo hw wa)
    (k1 : ¬ z0 = 0 → ∀ tu' en' ow' ta' mk' : Nat → Int32, tp_Y (A ++ B) tu' en' ow' ta' mk' → J (nI A.length - 1) tm (nI (A ++ B).length) wn tu' en' ow' ta' mk' tr lg wo hw wa) :
    wY_finish_82 post J c x2 (nI A.length) z0 tm (nI (A ++ e :: B).length) wn tu en ow ta mk tr lg wo hw wa := by
  obtain ⟨h20, hA, hok⟩ := id hY
  have hlen : (A ++ e :: B).length = (A.length + B.length) + 1 := by simp; omega
  have v0 : vp_in (nI A.length) 20 := vp_in_nI (by omega) (by omega)
  have c0 : (nI A.length).toNatClampNeg = A.length := nI_clamp (by omega)
  obtain ⟨a1, a2, a3, a4, a5⟩ := tp_A_at hA
  have hl : (A ++ e :: B).length = (A ++ tp_cl c e :: B).length := by simp
  have F : ∀ ow' ta' mk' : Nat → Int32, ow' A.length = (if e.2.2.1 = c then -1 else e.2.2.1) → ta' A.length = (if e.2.2.2.1 = c then -1 else e.2.2.2.1) → mk' A.length = e.2.2.2.2 &&& (((1 : Int32) <<< (c &&& 31)) ^^^ (-1)) →
      (∀ i, i ≠ A.length → ow' i = ow i ∧ ta' i = ta i ∧ mk' i = mk i) → wY_finish_136 post J c x2 (nI A.length) z0 tm (nI (A ++ e :: B).length) wn tu en ow' ta' mk' tr lg wo hw wa := by
    intro ow' ta' mk' e1 e2 e3 en
    rw [hl]
    have hY2 : tp_Y (A ++ tp_cl c e :: B) tu _ ow' ta' mk' := ⟨by omega, tp_A_set (tp_cl c e) hA ⟨a1, a2, e1, e2, e3⟩ (fun i hi => ⟨rfl, rfl, (en i hi).1, (en i hi).2.1, (en i hi).2.2⟩), tp_okS hok (tp_ok_cl (tp_okL hok))⟩
    exact tp_yfin136 hY2 (fun z => k0 z _ _ _ _ _ hY2) k1
  unfold wY_finish_82 wY_finish_119
  refine ⟨v0, v0, nm_r (e' := upd mk A.length (e.2.2.2.2 &&& (((1 : Int32) <<< (c &&& 31)) ^^^ (-1)))) (by rw [c0, a5]) ⟨v0, ?_⟩⟩
  rw [c0, a3, a4]
  refine br_c (fun z => ⟨v0, nm_e ⟨v0, br_c (fun y => ⟨v0, nm_e (F _ _ _ ?_ ?_ pk_us ?_)⟩) (fun y => F _ _ _ ?_ ?_ pk_us ?_)⟩⟩) (fun z => ⟨v0, br_c (fun y => ⟨v0, nm_e (F _ _ _ ?_ ?_ pk_us ?_)⟩) (fun y => F _ _ _ ?_ ?_ pk_us ?_)⟩)
  · rw [if_pos y]; exact pk_us
  · rw [if_pos z]; exact pk_us
  · exact fun i hi => ⟨pk_un hi, pk_un hi, pk_un hi⟩
  · rw [if_neg y]; exact a3
  · rw [if_pos z]; exact pk_us
  · exact fun i hi => ⟨rfl, pk_un hi, pk_un hi⟩
  · rw [if_pos y]; exact pk_us
  · rw [if_neg z]; exact a4
  · exact fun i hi => ⟨pk_un hi, rfl, pk_un hi⟩
  · rw [if_neg y]; exact a3
  · rw [if_neg z]; exact a4
  · exact fun i hi => ⟨rfl, rfl, pk_un hi⟩
/-- what stays: kp true (commit): the entries that c has not taken; false (abort): those that c has not put -/
def tp_st (kp : Bool) (c : Int32) (e : tp_E) : Bool := if kp then decide (e.2.2.2.1 ≠ c) else decide (e.2.2.1 ≠ c)
theorem tp_yfin41 {post : Int32 → SY → Prop} {Q : List tp_T} {c x2 : Int32} {kp : Bool} (hx2 : x2 = if kp then 1 else 0) (hQ : tp_QY Q wo hw wa) (hO : tp_QO Q) : ∀ (d : Nat) (A B : List tp_E) (m : Nat) (x3 : Int32) (tu en ow ta mk : Nat → Int32), A.length = d → x3 = nI A.length - 1 → d < m → tp_Y (A ++ B) tu en ow ta mk →
    (∀ tu' en' ow' ta' mk' wo' hw' wa' : Nat → Int32, tp_Y (tp_sv tr Q ((A.filter (tp_st kp c)).map (tp_cl c) ++ B) lg).2.1 tu' en' ow' ta' mk' → tp_QY (tp_sv tr Q ((A.filter (tp_st kp c)).map (tp_cl c) ++ B) lg).1 wo' hw' wa' →
      post 1 (tm, nI (tp_sv tr Q ((A.filter (tp_st kp c)).map (tp_cl c) ++ B) lg).2.1.length, nI (tp_sv tr Q ((A.filter (tp_st kp c)).map (tp_cl c) ++ B) lg).1.length, tu', en', ow', ta', mk', tr, (tp_sv tr Q ((A.filter (tp_st kp c)).map (tp_cl c) ++ B) lg).2.2, wo', hw', wa')) →
    wY_finish_41 post c x2 m x3 tm (nI (A ++ B).length) (nI Q.length) tu en ow ta mk tr lg wo hw wa := by
  intro d
  induction d with
  | zero =>
    intro A B m x3 tu en ow ta mk hA hx hm hY k
    obtain ⟨m, rfl⟩ : ∃ p, m = p + 1 := ⟨m - 1, by omega⟩
    obtain rfl : A = [] := List.eq_nil_of_length_eq_zero hA
    exact br_t (by rw [hx]; exact tp_l0) (tp_yserve hY hQ hO k)
  | succ d ih =>
    intro A B m x3 tu en ow ta mk hA hx hm hY k
    obtain ⟨m, rfl⟩ : ∃ p, m = p + 1 := ⟨m - 1, by omega⟩
    obtain ⟨A, e, rfl, hd⟩ := tp_snoc A d hA
    rw [tp_ln] at hx
    subst hx
    rw [tp_cons] at hY ⊢
    have hlen : (A ++ e :: B).length = (A.length + B.length) + 1 := by simp; omega
    have h20 := hY.1
    have v0 : vp_in (nI A.length) 20 := vp_in_nI (by omega) (by omega)
    have c0 : (nI A.length).toNatClampNeg = A.length := nI_clamp (by omega)
    obtain ⟨a1, a2, a3, a4, a5⟩ := tp_A_at hY.2.1
    have G0 : tp_st kp c e = true → wY_finish_82 post (wY_finish_41 post c x2 m) c x2 (nI A.length) 0 tm (nI (A ++ e :: B).length) (nI Q.length) tu en ow ta mk tr lg wo hw wa := by
      intro hk
      have ea : ((A ++ [e]).filter (tp_st kp c)).map (tp_cl c) ++ B = (A.filter (tp_st kp c)).map (tp_cl c) ++ tp_cl c e :: B := by rw [List.filter_append, List.filter_cons_of_pos hk]; simp
      rw [ea] at k
      exact tp_yfin82 hY (fun _ tu' en' ow' ta' mk' hY' => ih A (tp_cl c e :: B) m _ tu' en' ow' ta' mk' hd rfl (by omega) hY' k) (fun z => absurd rfl z)
    have G1 : ¬ tp_st kp c e = true → wY_finish_82 post (wY_finish_41 post c x2 m) c x2 (nI A.length) 1 tm (nI (A ++ e :: B).length) (nI Q.length) tu en ow ta mk tr lg wo hw wa := by
      intro hk
      have ea : ((A ++ [e]).filter (tp_st kp c)).map (tp_cl c) ++ B = (A.filter (tp_st kp c)).map (tp_cl c) ++ B := by rw [List.filter_append, List.filter_cons_of_neg hk]; simp
      rw [ea] at k
      exact tp_yfin82 hY (fun z => absurd z (by decide)) (fun _ tu' en' ow' ta' mk' hY' => ih A B m _ tu' en' ow' ta' mk' hd rfl (by omega) hY' k)
    refine br_f (nI_pos (by omega)) ?_
    cases kp with
    | false =>
      refine br_t hx2 ⟨v0, ?_⟩
      rw [c0, a3]
      exact br_c (fun z => G1 (by simp [tp_st, z])) (fun z => G0 (by simp [tp_st, z]))
    | true =>
      refine br_f (by rw [hx2]; decide) ⟨v0, ?_⟩
      rw [c0, a4]
      exact br_c (fun z => G1 (by simp [tp_st, z])) (fun z => G0 (by simp [tp_st, z]))
theorem tp_st_t {c : Int32} : tp_st true c = fun e => decide (e.2.2.2.1 ≠ c) := rfl
theorem tp_st_f {c : Int32} : tp_st false c = fun e => decide (e.2.2.1 ≠ c) := rfl
theorem tp_yfin {post : Int32 → SY → Prop} {Q : List tp_T} {L : List tp_E} {c x2 : Int32} {kp : Bool} (hx2 : x2 = if kp then 1 else 0) (hQ : tp_QY Q wo hw wa) (hO : tp_QO Q) (hY : tp_Y L tu en ow ta mk)
    (k : ∀ tu' en' ow' ta' mk' wo' hw' wa' : Nat → Int32, tp_Y (tp_sv tr Q ((L.filter (tp_st kp c)).map (tp_cl c)) lg).2.1 tu' en' ow' ta' mk' → tp_QY (tp_sv tr Q ((L.filter (tp_st kp c)).map (tp_cl c)) lg).1 wo' hw' wa' →
      post 1 (tm, nI (tp_sv tr Q ((L.filter (tp_st kp c)).map (tp_cl c)) lg).2.1.length, nI (tp_sv tr Q ((L.filter (tp_st kp c)).map (tp_cl c)) lg).1.length, tu', en', ow', ta', mk', tr, (tp_sv tr Q ((L.filter (tp_st kp c)).map (tp_cl c)) lg).2.2, wo', hw', wa')) :
    wY_finish_41 post c x2 (L.length + 1) (nI L.length - 1) tm (nI L.length) (nI Q.length) tu en ow ta mk tr lg wo hw wa := by
  have k2 := tp_yfin41 (post := post) (tm := tm) (tr := tr) (lg := lg) hx2 hQ hO L.length L [] (L.length + 1) _ tu en ow ta mk rfl rfl (by omega) (by rw [List.append_nil]; exact hY) (by rw [List.append_nil]; exact k)
  rw [List.append_nil] at k2
  exact k2
end
end
section
section
variable {n lv ql tm wn : Int32} {tu en ow ta mk wf tr lg wk wt qu wo hw wa : Nat → Int32}
def tp_cn (c w : Int32) : List tp_E → Int32 → Int32
  | [], a => a
  | e :: B, a => if (tp_ft e.1 w && tp_se c e) = true then tp_cn c w B (a + 1) else tp_cn c w B a
def tp_sn (c w k : Int32) : List tp_E → Int32 → Int32
  | [], _ => -4
  | e :: B, a => if (tp_ft e.1 w && tp_se c e) = true then (if a = k then e.1 else tp_sn c w k B (a + 1)) else tp_sn c w k B a
def tp_nx (tm : Int32) : List tp_E → Int32 → Int32
  | [], a => a
  | e :: B, a => if e.2.1 = -1 then tp_nx tm B a else if a = -4 then tp_nx tm B (e.2.1 - tm) else if a ≤ e.2.1 - tm then tp_nx tm B a else tp_nx tm B (e.2.1 - tm)
theorem tp_cn_0 {c w : Int32} : ∀ (L : List tp_E) (a : Int32), (∀ e, e ∈ L → tp_ft e.1 w = false) → tp_cn c w L a = a := by
  intro L
  induction L with
  | nil => intro a _; rfl
  | cons e B ih =>
    intro a h
    rw [tp_cn, if_neg (by rw [h e (by simp)]; simp)]
    exact ih a (fun x hx => h x (List.mem_cons_of_mem _ hx))
theorem tp_sn_0 {c w k : Int32} : ∀ (L : List tp_E) (a : Int32), (∀ e, e ∈ L → tp_ft e.1 w = false) → tp_sn c w k L a = -4 := by
  intro L
  induction L with
  | nil => intro a _; rfl
  | cons e B ih =>
    intro a h
    rw [tp_sn, if_neg (by rw [h e (by simp)]; simp)]
    exact ih a (fun x hx => h x (List.mem_cons_of_mem _ hx))
theorem tp_xcount28 {post : Int32 → Prop} {c w : Int32} {L : List tp_E} (h : tp_Y L tu en ow ta mk) :
    ∀ (R A : List tp_E) (m : Nat) (a : Int32), L = A ++ R → R.length < m → post (tp_cn c w R a) → wX_count_28 post c w (nI L.length) n lv ql tm tu en ow ta mk wf tr lg wk wt qu m a (nI A.length) := by
  intro R
  induction R with
  | nil =>
    intro A m a hL hm k
    obtain ⟨m, rfl⟩ : ∃ p, m = p + 1 := ⟨m - 1, by omega⟩
    rw [List.append_nil] at hL
    subst hL
    exact br_t (Int32.le_refl _) k
  | cons e R ih =>
    intro A m a hL hm k
    obtain ⟨m, rfl⟩ : ∃ p, m = p + 1 := ⟨m - 1, by omega⟩
    rw [List.length_cons] at hm
    have hlen : L.length = A.length + (R.length + 1) := by rw [hL]; simp
    have h20 := h.1
    have ha := h.2.1
    rw [hL] at ha
    obtain ⟨a1, a2, a3, a4, a5⟩ := tp_A_at ha
    have hi : A.length < 20 := by omega
    have next : ∀ b, post (tp_cn c w R b) → ∀ y, y = nI A.length + 1 → wX_count_28 post c w (nI L.length) n lv ql tm tu en ow ta mk wf tr lg wk wt qu m b y := by
      intro b kb
      refine nm_r (nI_1 _) ?_
      have := ih (A ++ [e]) m b (by simp [hL]) (by omega) kb
      rwa [List.length_append, List.length_singleton] at this
    have k0 : (tp_ft e.1 w && tp_se c e) = false → post (tp_cn c w R a) := fun z => by
      rw [tp_cn, if_neg (by rw [z]; decide)] at k
      exact k
    refine br_f (nI_ge (by omega) (by omega)) ?_
    refine tp_xfits (t := e.1) hi a1 (fun f1 => br_f (by decide) ?_) (fun f0 => br_t rfl (next a (k0 (by simp [f0]))))
    refine tp_xseen (e := e) hi a3 a4 (fun s1 => br_f (by decide) ?_) (fun s0 => br_t rfl (next a (k0 (by simp [s0]))))
    rw [tp_cn, if_pos (by rw [f1, s1]; rfl)] at k
    exact nm_e (next _ k)
theorem tp_ycount27 {post : Int32 → Prop} {c w : Int32} {L : List tp_E} (h : tp_Y L tu en ow ta mk) :
    ∀ (R A : List tp_E) (m : Nat) (a : Int32), L = A ++ R → R.length < m → post (tp_cn c w R a) → wY_count_27 post c w tm (nI L.length) wn tu en ow ta mk tr lg wo hw wa m a (nI A.length) := by
  intro R
  induction R with
  | nil =>
    intro A m a hL hm k
    obtain ⟨m, rfl⟩ : ∃ p, m = p + 1 := ⟨m - 1, by omega⟩
    rw [List.append_nil] at hL
    subst hL
    exact br_t (Int32.le_refl _) k
  | cons e R ih =>
    intro A m a hL hm k
    obtain ⟨m, rfl⟩ : ∃ p, m = p + 1 := ⟨m - 1, by omega⟩
    rw [List.length_cons] at hm
    have hlen : L.length = A.length + (R.length + 1) := by rw [hL]; simp
    have h20 := h.1
    have ha := h.2.1
    have hok := h.2.2
    rw [hL] at ha hok
    obtain ⟨a1, a2, a3, a4, a5⟩ := tp_A_at ha
    have hi : A.length < 20 := by omega
    have v0 : vp_in (nI A.length) 20 := vp_in_nI (by omega) (by omega)
    have c0 : (nI A.length).toNatClampNeg = A.length := nI_clamp (by omega)
    have next : ∀ b, post (tp_cn c w R b) → ∀ y, y = nI A.length + 1 → wY_count_27 post c w tm (nI L.length) wn tu en ow ta mk tr lg wo hw wa m b y := by
      intro b kb
      refine nm_r (nI_1 _) ?_
      have := ih (A ++ [e]) m b (by simp [hL]) (by omega) kb
      rwa [List.length_append, List.length_singleton] at this
    have k0 : (tp_ft e.1 w && tp_se c e) = false → post (tp_cn c w R a) := fun z => by
      rw [tp_cn, if_neg (by rw [z]; decide)] at k
      exact k
    refine br_f (nI_ge (by omega) (by omega)) ?_
    refine tp_yseen (e := e) hi (tp_okL hok) a3 a4 (fun s1 => br_f (by decide) ⟨v0, ?_⟩) (fun s0 => br_t rfl (next a (k0 (by simp [s0]))))
    rw [c0, a1]
    refine tp_yfits (fun f1 => br_f (by decide) ?_) (fun f0 => br_t rfl (next a (k0 (by simp [f0]))))
    rw [tp_cn, if_pos (by rw [f1, s1]; rfl)] at k
    exact nm_e (next _ k)
theorem tp_xseen29 {post : Int32 → Prop} {c w kk : Int32} {L : List tp_E} (h : tp_Y L tu en ow ta mk) :
    ∀ (R A : List tp_E) (m : Nat) (a : Int32), L = A ++ R → R.length < m → post (tp_sn c w kk R a) → wX_seen_29 post c w kk (nI L.length) n lv ql tm tu en ow ta mk wf tr lg wk wt qu m a (nI A.length) := by
  intro R
  induction R with
  | nil =>
    intro A m a hL hm k
    obtain ⟨m, rfl⟩ : ∃ p, m = p + 1 := ⟨m - 1, by omega⟩
    rw [List.append_nil] at hL
    subst hL
    exact br_t (Int32.le_refl _) k
  | cons e R ih =>
    intro A m a hL hm k
    obtain ⟨m, rfl⟩ : ∃ p, m = p + 1 := ⟨m - 1, by omega⟩
    rw [List.length_cons] at hm
    have hlen : L.length = A.length + (R.length + 1) := by rw [hL]; simp
    have h20 := h.1
    have ha := h.2.1
    rw [hL] at ha
    obtain ⟨a1, a2, a3, a4, a5⟩ := tp_A_at ha
    have hi : A.length < 20 := by omega
    have v0 : vp_in (nI A.length) 20 := vp_in_nI (by omega) (by omega)
    have c0 : (nI A.length).toNatClampNeg = A.length := nI_clamp (by omega)
    have next : ∀ b, post (tp_sn c w kk R b) → ∀ y, y = nI A.length + 1 → wX_seen_29 post c w kk (nI L.length) n lv ql tm tu en ow ta mk wf tr lg wk wt qu m b y := by
      intro b kb
      refine nm_r (nI_1 _) ?_
      have := ih (A ++ [e]) m b (by simp [hL]) (by omega) kb
      rwa [List.length_append, List.length_singleton] at this
    have k0 : (tp_ft e.1 w && tp_se c e) = false → post (tp_sn c w kk R a) := fun z => by
      rw [tp_sn, if_neg (by rw [z]; decide)] at k
      exact k
    refine br_f (nI_ge (by omega) (by omega)) ?_
    refine tp_xfits (t := e.1) hi a1 (fun f1 => br_f (by decide) ?_) (fun f0 => br_t rfl (next a (k0 (by simp [f0]))))
    refine tp_xseen (e := e) hi a3 a4 (fun s1 => br_f (by decide) ?_) (fun s0 => br_t rfl (next a (k0 (by simp [s0]))))
    rw [tp_sn, if_pos (by rw [f1, s1]; rfl)] at k
    refine br_c (fun z => ⟨v0, ?_⟩) (fun z => nm_e (next _ ?_))
    · rw [if_pos z] at k
      rw [c0, a1]
      exact k
    · rw [if_neg z] at k
      exact k
theorem tp_yseen28 {post : Int32 → Prop} {c w kk : Int32} {L : List tp_E} (h : tp_Y L tu en ow ta mk) :
    ∀ (R A : List tp_E) (m : Nat) (a : Int32), L = A ++ R → R.length < m → post (tp_sn c w kk R a) → wY_seen_28 post c w kk tm (nI L.length) wn tu en ow ta mk tr lg wo hw wa m a (nI A.length) := by
  intro R
  induction R with
  | nil =>
    intro A m a hL hm k
    obtain ⟨m, rfl⟩ : ∃ p, m = p + 1 := ⟨m - 1, by omega⟩
    rw [List.append_nil] at hL
    subst hL
    exact br_t (Int32.le_refl _) k
  | cons e R ih =>
    intro A m a hL hm k
    obtain ⟨m, rfl⟩ : ∃ p, m = p + 1 := ⟨m - 1, by omega⟩
    rw [List.length_cons] at hm
    have hlen : L.length = A.length + (R.length + 1) := by rw [hL]; simp
    have h20 := h.1
    have ha := h.2.1
    have hok := h.2.2
    rw [hL] at ha hok
    obtain ⟨a1, a2, a3, a4, a5⟩ := tp_A_at ha
    have hi : A.length < 20 := by omega
    have v0 : vp_in (nI A.length) 20 := vp_in_nI (by omega) (by omega)
    have c0 : (nI A.length).toNatClampNeg = A.length := nI_clamp (by omega)
    have next : ∀ b, post (tp_sn c w kk R b) → ∀ y, y = nI A.length + 1 → wY_seen_28 post c w kk tm (nI L.length) wn tu en ow ta mk tr lg wo hw wa m b y := by
      intro b kb
      refine nm_r (nI_1 _) ?_
      have := ih (A ++ [e]) m b (by simp [hL]) (by omega) kb
      rwa [List.length_append, List.length_singleton] at this
    have k0 : (tp_ft e.1 w && tp_se c e) = false → post (tp_sn c w kk R a) := fun z => by
      rw [tp_sn, if_neg (by rw [z]; decide)] at k
      exact k
    refine br_f (nI_ge (by omega) (by omega)) ?_
    refine tp_yseen (e := e) hi (tp_okL hok) a3 a4 (fun s1 => br_f (by decide) ⟨v0, ?_⟩) (fun s0 => br_t rfl (next a (k0 (by simp [s0]))))
    rw [c0, a1]
    refine tp_yfits (fun f1 => br_f (by decide) ?_) (fun f0 => br_t rfl (next a (k0 (by simp [f0]))))
    rw [tp_sn, if_pos (by rw [f1, s1]; rfl)] at k
    refine br_c (fun z => ⟨v0, ?_⟩) (fun z => nm_e (next _ ?_))
    · rw [if_pos z] at k
      exact k
    · rw [if_neg z] at k
      exact k
theorem tp_xnext5 {post : Int32 → Prop} {L : List tp_E} (h : tp_Y L tu en ow ta mk) :
    ∀ (R A : List tp_E) (m : Nat) (a : Int32), L = A ++ R → R.length < m → post (tp_nx tm R a) → wX_next_5 post (nI L.length) lv ql tm tu en ow ta mk wf tr lg wk wt qu m a (nI A.length) := by
  intro R
  induction R with
  | nil =>
    intro A m a hL hm k
    obtain ⟨m, rfl⟩ : ∃ p, m = p + 1 := ⟨m - 1, by omega⟩
    rw [List.append_nil] at hL
    subst hL
    exact br_t (Int32.le_refl _) k
  | cons e R ih =>
    intro A m a hL hm k
    obtain ⟨m, rfl⟩ : ∃ p, m = p + 1 := ⟨m - 1, by omega⟩
    rw [List.length_cons] at hm
    have hlen : L.length = A.length + (R.length + 1) := by rw [hL]; simp
    have h20 := h.1
    have ha := h.2.1
    rw [hL] at ha
    obtain ⟨a1, a2, a3, a4, a5⟩ := tp_A_at ha
    have v0 : vp_in (nI A.length) 20 := vp_in_nI (by omega) (by omega)
    have c0 : (nI A.length).toNatClampNeg = A.length := nI_clamp (by omega)
    have next : ∀ b, post (tp_nx tm R b) → ∀ y, y = nI A.length + 1 → wX_next_5 post (nI L.length) lv ql tm tu en ow ta mk wf tr lg wk wt qu m b y := by
      intro b kb
      refine nm_r (nI_1 _) ?_
      have := ih (A ++ [e]) m b (by simp [hL]) (by omega) kb
      rwa [List.length_append, List.length_singleton] at this
    refine br_f (nI_ge (by omega) (by omega)) ⟨v0, ?_⟩
    rw [c0, a2]
    rw [tp_nx] at k
    refine br_c (fun z => next _ (by rw [if_pos z] at k; exact k)) (fun z => ⟨v0, nm_e ?_⟩)
    rw [if_neg z] at k
    refine br_c (fun y => next _ (by rw [if_pos y] at k; exact k)) (fun y => ?_)
    rw [if_neg y] at k
    exact br_c (fun x => next _ (by rw [if_pos x] at k; exact k)) (fun x => next _ (by rw [if_neg x] at k; exact k))
theorem tp_ynext5 {post : Int32 → Prop} {L : List tp_E} (h : tp_Y L tu en ow ta mk) :
    ∀ (R A : List tp_E) (m : Nat) (a : Int32), L = A ++ R → R.length < m → post (tp_nx tm R a) → wY_next_5 post tm (nI L.length) wn tu en ow ta mk tr lg wo hw wa m a (nI A.length) := by
  intro R
  induction R with
  | nil =>
    intro A m a hL hm k
    obtain ⟨m, rfl⟩ : ∃ p, m = p + 1 := ⟨m - 1, by omega⟩
    rw [List.append_nil] at hL
    subst hL
    exact br_t (Int32.le_refl _) k
  | cons e R ih =>
    intro A m a hL hm k
    obtain ⟨m, rfl⟩ : ∃ p, m = p + 1 := ⟨m - 1, by omega⟩
    rw [List.length_cons] at hm
    have hlen : L.length = A.length + (R.length + 1) := by rw [hL]; simp
    have h20 := h.1
    have ha := h.2.1
    have hok := h.2.2
    rw [hL] at ha hok
    obtain ⟨a1, a2, a3, a4, a5⟩ := tp_A_at ha
    have t1 := (tp_neg (tp_okL hok).2.1).1
    have v0 : vp_in (nI A.length) 20 := vp_in_nI (by omega) (by omega)
    have c0 : (nI A.length).toNatClampNeg = A.length := nI_clamp (by omega)
    have next : ∀ b, post (tp_nx tm R b) → ∀ y, y = nI A.length + 1 → wY_next_5 post tm (nI L.length) wn tu en ow ta mk tr lg wo hw wa m b y := by
      intro b kb
      refine nm_r (nI_1 _) ?_
      have := ih (A ++ [e]) m b (by simp [hL]) (by omega) kb
      rwa [List.length_append, List.length_singleton] at this
    have G : post (tp_nx tm R (e.2.1 - tm)) → wY_next_43 post (wY_next_5 post tm (nI L.length) wn tu en ow ta mk tr lg wo hw wa m) (nI A.length) tm (nI L.length) wn tu en ow ta mk tr lg wo hw wa := by
      intro kb
      unfold wY_next_43
      exact ⟨v0, nm_r (by rw [c0, a2]) (next _ kb)⟩
    refine br_f (nI_ge (by omega) (by omega)) ⟨v0, ?_⟩
    rw [c0, a2]
    rw [tp_nx] at k
    refine br_c (fun z => next _ (by rw [if_pos (t1.mp z)] at k; exact k)) (fun z => ?_)
    rw [if_neg (fun q => z (t1.mpr q))] at k
    refine br_c (fun y => G (by rw [if_pos y] at k; exact k)) (fun y => ⟨v0, ?_⟩)
    rw [if_neg y] at k
    exact br_c (fun x => next _ (by rw [if_pos x] at k; exact k)) (fun x => G (by rw [if_neg x] at k; exact k))
end
end
section
section
variable {n lv ql tm wn : Int32} {tu en ow ta mk wf tr lg wk wt qu wo hw wa : Nat → Int32}
/-! arguments -/
theorem tp_rg (x : Int32) (N : Nat) (hN : N < 2 ^ 31) : (∃ j : Nat, j ≤ N ∧ x = nI j) ∨ (x < 0 ∨ nI N < x) := by
  by_cases h : x < 0
  · exact Or.inr (Or.inl h)
  · obtain ⟨j, hj, rfl⟩ := nI_of h
    by_cases hl : j ≤ N
    · exact Or.inl ⟨j, hl, rfl⟩
    · exact Or.inr (Or.inr (nI_lt (by omega) hj))
theorem tp_34 {x : Int32} (h : (3 : Int32) < x) : (4 : Int32) ≤ x := by
  rw [Int32.lt_iff_toInt_lt, show (3 : Int32).toInt = 3 by decide] at h
  rw [Int32.le_iff_toInt_le, show (4 : Int32).toInt = 4 by decide]
  omega
theorem tp_xcl_t {post : Int32 → Prop} {c : Nat} (hc : c < 4) (h : post 1) : wpX_isClient post (nI c) := by
  unfold wpX_isClient
  exact br_f (nI_pos (by omega)) (br_f (nI_ge (b := 4) hc (by decide)) h)
theorem tp_xcl_f {post : Int32 → Prop} {x : Int32} (hx : x < 0 ∨ (3 : Int32) < x) (h : post 0) : wpX_isClient post x := by
  unfold wpX_isClient
  exact br_c (fun _ => h) (fun z => br_t (hx.elim (fun y => absurd y z) tp_34) h)
theorem tp_xte_t {post : Int32 → Prop} {w : Nat} (hw : w ≤ 288) (h : post 1) : wpX_isTemplate post (nI w) := by
  unfold wpX_isTemplate
  exact br_f (nI_pos (by omega)) (br_f (nI_nlt (a := 288) hw (by decide)) h)
theorem tp_xte_f {post : Int32 → Prop} {x : Int32} (hx : x < 0 ∨ (288 : Int32) < x) (h : post 0) : wpX_isTemplate post x := by
  unfold wpX_isTemplate
  exact br_c (fun _ => h) (fun z => br_t (hx.elim (fun y => absurd y z) id) h)
theorem tp_yin_t {post : Int32 → Prop} {x lo hi : Int32} (h1 : ¬ x < lo) (h2 : ¬ hi < x) (h : post 1) : wpY_in post (tm, n, wn, tu, en, ow, ta, mk, tr, lg, wo, hw, wa) x lo hi := by
  unfold wpY_in
  exact br_f h1 (br_f h2 h)
theorem tp_yin_f {post : Int32 → Prop} {x lo hi : Int32} (hx : x < lo ∨ hi < x) (h : post 0) : wpY_in post (tm, n, wn, tu, en, ow, ta, mk, tr, lg, wo, hw, wa) x lo hi := by
  unfold wpY_in
  exact br_c (fun _ => h) (fun z => br_t (hx.elim (fun y => absurd y z) id) h)
theorem tp_ycl_t {post : Int32 → Prop} {c : Nat} (hc : c < 4) (h : post 1) : wpY_isClient post (tm, n, wn, tu, en, ow, ta, mk, tr, lg, wo, hw, wa) (nI c) := by
  unfold wpY_isClient
  exact tp_yin_t (nI_pos (by omega)) (nI_nlt (a := 3) (by omega) (by decide)) ⟨rfl, h⟩
theorem tp_ycl_f {post : Int32 → Prop} {x : Int32} (hx : x < 0 ∨ (3 : Int32) < x) (h : post 0) : wpY_isClient post (tm, n, wn, tu, en, ow, ta, mk, tr, lg, wo, hw, wa) x := by
  unfold wpY_isClient
  exact tp_yin_f hx ⟨rfl, h⟩
/-! put -/
def tp_new (b tm c tup life : Int32) : tp_E := (tup, if life = 0 then -1 else tm + life, if b = 0 then -1 else c, -1, 0)
theorem tp_ok_new {b : Int32} {t j l c : Nat} (hj : j < 256) (ht : t + l < 2 ^ 31) (hc : c < 4) : tp_ok (tp_new b (nI t) (nI c) (nI j) (nI l)) := by
  refine ⟨⟨j, hj, rfl⟩, ?_, ?_, Or.inl rfl⟩
  · show (if nI l = 0 then -1 else nI t + nI l) = -1 ∨ 0 ≤ (if nI l = 0 then -1 else nI t + nI l)
    by_cases z : nI l = 0
    · rw [if_pos z]; exact Or.inl rfl
    · rw [if_neg z, nI_add]; exact Or.inr (nI_pos' ht)
  · show (if b = 0 then -1 else nI c) = -1 ∨ 0 ≤ (if b = 0 then -1 else nI c)
    by_cases z : b = 0
    · rw [if_pos z]; exact Or.inl rfl
    · rw [if_neg z]; exact Or.inr (nI_pos' (by omega))
theorem tp_xadd {post : SX → Prop} {L : List tp_E} {c j : Nat} {life : Int32} (hc : c < 4) (hj : j < 256) (hl : L.length < 20) (hok : tp_ok (tp_new (tr c) tm (nI c) (nI j) life)) (h : tp_X L tu en ow ta mk wf)
    (k : ∀ tu' en' ow' ta' mk' wf' : Nat → Int32, tp_X (L ++ [tp_new (tr c) tm (nI c) (nI j) life]) tu' en' ow' ta' mk' wf' → post (nI (L ++ [tp_new (tr c) tm (nI c) (nI j) life]).length, lv, ql, tm, tu', en', ow', ta', mk', wf', tr, lg, wk, wt, qu)) :
    wpX_addEntry post (nI L.length, lv, ql, tm, tu, en, ow, ta, mk, wf, tr, lg, wk, wt, qu) (nI c) (nI j) life := by
  obtain ⟨⟨h20, hA, hoks⟩, hW⟩ := h
  have v0 : vp_in (nI L.length) 20 := vp_in_nI hl (by omega)
  have c0 : (nI L.length).toNatClampNeg = L.length := nI_clamp (by omega)
  have vc : vp_in (nI c) 4 := vp_in_nI hc (by omega)
  have cc : (nI c).toNatClampNeg = c := nI_clamp (by omega)
  have hd : nI j / 16 = nI (j / 16) := by rw [tp_16, pk_div (by omega) (by omega) (by omega)]
  have hg : j / 16 < 16 := by omega
  have vg : vp_in (nI (j / 16)) 16 := vp_in_nI hg (by omega)
  have cg : (nI (j / 16)).toNatClampNeg = j / 16 := nI_clamp (by omega)
  have hl1 : nI L.length + 1 = nI (L ++ [tp_new (tr c) tm (nI c) (nI j) life]).length := by rw [nI_1]; simp
  have F : ∀ ze zo : Int32, ze = (if life = 0 then -1 else tm + life) → zo = (if tr c = 0 then -1 else nI c) →
      wX_addEntry_55 post (nI j) zo (nI L.length) (nI L.length) lv ql tm (upd tu L.length (nI j)) (upd en L.length ze) ow ta mk wf tr lg wk wt qu := by
    intro ze zo he ho
    unfold wX_addEntry_55
    rw [hd, c0, cg]
    refine ⟨v0, nm_e ⟨v0, nm_e ⟨v0, nm_e (nm_r hl1 ⟨by decide, vg, vg, nm_e (k _ _ _ _ _ _ ⟨⟨by rw [List.length_append, List.length_singleton]; omega, ?_, ?_⟩, tp_W_add hW hg hd⟩)⟩)⟩⟩⟩
    · exact tp_A_add _ hA ⟨pk_us, pk_us.trans he, pk_us.trans ho, pk_us, pk_us⟩ (fun i hi => ⟨pk_un hi, pk_un hi, pk_un hi, pk_un hi, pk_un hi⟩)
    · intro e he
      rw [List.mem_append, List.mem_singleton] at he
      rcases he with he | he
      · exact hoks e he
      · rw [he]; exact hok
  have G : ∀ ze : Int32, ze = (if life = 0 then -1 else tm + life) → wX_addEntry_32 post (nI c) (nI j) ze (nI L.length) (nI L.length) lv ql tm (upd tu L.length (nI j)) en ow ta mk wf tr lg wk wt qu := by
    intro ze he
    unfold wX_addEntry_32
    rw [c0, cc]
    exact ⟨v0, nm_e ⟨vc, br_c (fun z => F _ _ he (by rw [if_pos z])) (fun z => F _ _ he (by rw [if_neg z]))⟩⟩
  unfold wpX_addEntry
  dsimp only
  rw [c0]
  exact ⟨v0, nm_e (br_c (fun z => G _ (by rw [if_pos z])) (fun z => G _ (by rw [if_neg z])))⟩
theorem tp_yput88 {post : Int32 → SY → Prop} {L : List tp_E} {Q : List tp_T} {c j : Nat} {life ze : Int32} (hc : c < 4) (hl : L.length < 20) (hok : tp_ok (tp_new (tr c) tm (nI c) (nI j) life)) (he : ze = (if life = 0 then -1 else tm + life))
    (h : tp_Y L tu en ow ta mk) (hQ : tp_QY Q wo hw wa) (hO : tp_QO Q)
    (k : ∀ tu' en' ow' ta' mk' wo' hw' wa' : Nat → Int32, tp_Y (tp_sv tr Q (L ++ [tp_new (tr c) tm (nI c) (nI j) life]) lg).2.1 tu' en' ow' ta' mk' → tp_QY (tp_sv tr Q (L ++ [tp_new (tr c) tm (nI c) (nI j) life]) lg).1 wo' hw' wa' →
      post (nI (L ++ [tp_new (tr c) tm (nI c) (nI j) life]).length) (tm, nI (tp_sv tr Q (L ++ [tp_new (tr c) tm (nI c) (nI j) life]) lg).2.1.length, nI (tp_sv tr Q (L ++ [tp_new (tr c) tm (nI c) (nI j) life]) lg).1.length, tu', en', ow', ta', mk', tr, (tp_sv tr Q (L ++ [tp_new (tr c) tm (nI c) (nI j) life]) lg).2.2, wo', hw', wa')) :
    wY_put_88 post (nI c) ze (nI L.length) tm (nI L.length) (nI Q.length) (upd tu L.length (nI j)) en ow ta mk tr lg wo hw wa := by
  obtain ⟨h20, hA, hoks⟩ := h
  have v0 : vp_in (nI L.length) 20 := vp_in_nI hl (by omega)
  have c0 : (nI L.length).toNatClampNeg = L.length := nI_clamp (by omega)
  have vc : vp_in (nI c) 4 := vp_in_nI hc (by omega)
  have cc : (nI c).toNatClampNeg = c := nI_clamp (by omega)
  have hl1 : nI L.length + 1 = nI (L ++ [tp_new (tr c) tm (nI c) (nI j) life]).length := by rw [nI_1]; simp
  have F : ∀ zo : Int32, zo = (if tr c = 0 then -1 else nI c) →
      wY_put_111 post zo (nI L.length) tm (nI L.length) (nI Q.length) (upd tu L.length (nI j)) (upd en L.length ze) ow ta mk tr lg wo hw wa := by
    intro zo ho
    unfold wY_put_111
    rw [c0]
    refine ⟨v0, nm_e ⟨v0, nm_e ⟨v0, nm_e (nm_r hl1 (tp_yserve (L := L ++ [tp_new (tr c) tm (nI c) (nI j) life]) ⟨by rw [List.length_append, List.length_singleton]; omega, ?_, ?_⟩ hQ hO k))⟩⟩⟩
    · exact tp_A_add _ hA ⟨pk_us, pk_us.trans he, pk_us.trans ho, pk_us, pk_us⟩ (fun i hi => ⟨pk_un hi, pk_un hi, pk_un hi, pk_un hi, pk_un hi⟩)
    · intro e he
      rw [List.mem_append, List.mem_singleton] at he
      rcases he with he | he
      · exact hoks e he
      · rw [he]; exact hok
  unfold wY_put_88
  rw [c0, cc]
  exact ⟨v0, nm_e ⟨vc, br_c (fun z => F _ (by rw [if_pos z])) (fun z => F _ (by rw [if_neg z]))⟩⟩
/-! ask -/
theorem tp_xask48 {post : Int32 → SX → Prop} {L : List tp_E} {Q : List tp_T} {c h w : Nat} {tk : Bool} {kd : Int32} (hkd : kd = if tk then 2 else 1) (hh : h ≤ 3) (hkw : h < 2 → kd = nI (h + 1)) (hc : c < 4) (hw : w ≤ 288)
    (hX : tp_X L tu en ow ta mk wf) (hQ : tp_QQ Q qu) (hO : tp_QO Q) (hK : tp_K Q wk wt) (hn : ∀ q, q ∈ Q → q.1 ≠ c)
    (h1 : ∀ t L', tp_gv tk (tr c) (nI c) (nI w) L = some (t, L') → ∀ tu' en' ow' ta' mk' wf' : Nat → Int32, tp_X L' tu' en' ow' ta' mk' wf' → post t (nI L'.length, lv, nI Q.length, tm, tu', en', ow', ta', mk', wf', tr, upd lg c t, wk, wt, qu))
    (h2 : tp_gv tk (tr c) (nI c) (nI w) L = none → 2 ≤ h → post (-4) (nI L.length, lv, nI Q.length, tm, tu, en, ow, ta, mk, wf, tr, lg, wk, wt, qu))
    (h3 : tp_gv tk (tr c) (nI c) (nI w) L = none → h < 2 → ∀ wk' wt' qu' : Nat → Int32, tp_QQ (Q ++ [(c, h, w)]) qu' → tp_K (Q ++ [(c, h, w)]) wk' wt' → post (-4) (nI L.length, lv, nI (Q ++ [(c, h, w)]).length, tm, tu, en, ow, ta, mk, wf, tr, lg, wk', wt', qu')) :
    wX_ask_48 post (nI c) (nI h) (nI w) kd (nI L.length) lv (nI Q.length) tm tu en ow ta mk wf tr lg wk wt qu := by
  have vc : vp_in (nI c) 4 := vp_in_nI hc (by omega)
  have cc : (nI c).toNatClampNeg = c := nI_clamp (by omega)
  have q3 := tp_Q3 hO hc hn
  unfold wX_ask_48
  refine tp_xgive hkd hc hw hX (fun hg => br_t rfl ?_) (fun t L' hs tu' en' ow' ta' mk' wf' hX' => br_f (tp_n4 (tp_gv_t hX.1.2.2 hs)) (h1 t L' hs _ _ _ _ _ _ hX'))
  by_cases z : h < 2
  · refine br_f (nI_ge (b := 2) z (by decide)) ?_
    have vq : vp_in (nI Q.length) 4 := vp_in_nI q3 (by omega)
    have cq : (nI Q.length).toNatClampNeg = Q.length := nI_clamp (by omega)
    have hl1 : nI Q.length + 1 = nI (Q ++ [(c, h, w)]).length := by rw [nI_1]; simp
    unfold wpX_startWaiting
    dsimp only
    rw [cc, cq, hkw z]
    exact ⟨vc, nm_e ⟨vc, nm_e ⟨vq, nm_e (nm_r hl1 (h3 hg z _ _ _ (tp_QQ_add (q := (c, h, w)) hQ) (tp_K_add hn hK)))⟩⟩⟩
  · exact br_t (nI_le (a := 2) (by omega) (by omega)) (h2 hg (by omega))
theorem tp_yask57 {post : Int32 → SY → Prop} {L : List tp_E} {Q : List tp_T} {c h w : Nat} {tk : Bool} {kd : Int32} (hkd : kd = if tk then 1 else 0) (hh : h ≤ 3) (hc : c < 4)
    (hY : tp_Y L tu en ow ta mk) (hQ : tp_QY Q wo hw wa) (hO : tp_QO Q) (hn : ∀ q, q ∈ Q → q.1 ≠ c)
    (h1 : ∀ t L', tp_gv tk (tr c) (nI c) (nI w) L = some (t, L') → ∀ tu' en' ow' ta' mk' : Nat → Int32, tp_Y L' tu' en' ow' ta' mk' → post t (tm, nI L'.length, nI Q.length, tu', en', ow', ta', mk', tr, upd lg c t, wo, hw, wa))
    (h2 : tp_gv tk (tr c) (nI c) (nI w) L = none → 2 ≤ h → post (-4) (tm, nI L.length, nI Q.length, tu, en, ow, ta, mk, tr, lg, wo, hw, wa))
    (h3 : tp_gv tk (tr c) (nI c) (nI w) L = none → h < 2 → ∀ wo' hw' wa' : Nat → Int32, tp_QY (Q ++ [(c, h, w)]) wo' hw' wa' → post (-4) (tm, nI L.length, nI (Q ++ [(c, h, w)]).length, tu, en, ow, ta, mk, tr, lg, wo', hw', wa')) :
    wY_ask_57 post (nI c) (nI h) (nI w) kd (nI c) tm (nI L.length) (nI Q.length) tu en ow ta mk tr lg wo hw wa := by
  have vc : vp_in (nI c) 4 := vp_in_nI hc (by omega)
  have cc : (nI c).toNatClampNeg = c := nI_clamp (by omega)
  have q3 := tp_Q3 hO hc hn
  unfold wY_ask_57
  refine tp_ygive hkd hc hY (fun hg => br_t rfl ?_) (fun t L' hs tu' en' ow' ta' mk' hY' => br_f (by decide) ⟨vc, ?_⟩)
  · by_cases z : h < 2
    · have vq : vp_in (nI Q.length) 4 := vp_in_nI q3 (by omega)
      have cq : (nI Q.length).toNatClampNeg = Q.length := nI_clamp (by omega)
      have hl1 : nI Q.length + 1 = nI (Q ++ [(c, h, w)]).length := by rw [nI_1]; simp
      refine br_f (nI_ge (b := 2) z (by decide)) ?_
      rw [cq]
      exact ⟨vq, nm_e ⟨vq, nm_e ⟨vq, nm_e (nm_r hl1 (h3 hg z _ _ _ (tp_QY_add hQ)))⟩⟩⟩
    · exact br_t (nI_le (a := 2) (by omega) (by omega)) (h2 hg (by omega))
  · rw [cc, pk_us]
    exact h1 t L' hs _ _ _ _ _ hY'
end
end
section
section
variable {tm n wn lv ql : Int32} {tu en ow ta mk wf tr lg wk wt qu wo hw wa tu2 en2 ow2 ta2 mk2 : Nat → Int32}
theorem tp_dec {Q : List tp_T} (hK : tp_K Q wk wt) (hO : tp_QO Q) {c : Nat} (hc : c < 4) : (wk c = 0 ∧ ∀ q, q ∈ Q → q.1 ≠ c) ∨ (¬ wk c = 0 ∧ ∃ K q R, Q = K ++ q :: R ∧ q.1 = c) := by
  by_cases z : wk c = 0
  · exact Or.inl ⟨z, (tp_wk hK hO hc).mp z⟩
  · refine Or.inr ⟨z, ?_⟩
    have hn : ¬ ∀ q, q ∈ Q → q.1 ≠ c := fun y => z ((tp_wk hK hO hc).mpr y)
    have he : ∃ q, q ∈ Q ∧ q.1 = c := Classical.byContradiction (fun y => hn (fun q hq hqc => y ⟨q, hq, hqc⟩))
    obtain ⟨q, hq, hqc⟩ := he
    obtain ⟨K, R, e⟩ := List.append_of_mem hq
    exact ⟨K, q, R, e, hqc⟩
theorem tp_yq_no {post : Int32 → Prop} {Q : List tp_T} {c : Nat} (hQY : tp_QY Q wo hw wa) (hO : tp_QO Q) (hc : c < 4) (hn : ∀ q, q ∈ Q → q.1 ≠ c) (h : post (-1)) : wpY_queued post (tm, n, nI Q.length, tu, en, ow, ta, mk, tr, lg, wo, hw, wa) (nI c) := by
  refine tp_yqueued hQY (tp_Q4 hO) (fun _ => h) (fun K q R e _ hq => ?_)
  have hm : q ∈ Q := by rw [e]; simp
  have h4 := (hO.1 q hm).1
  exact absurd ((nI_eq (by omega) (by omega)).mp hq) (hn q hm)
theorem tp_fsK {K R : List tp_T} {q : tp_T} (hO : tp_QO (K ++ q :: R)) : ∀ x, x ∈ K → nI x.1 ≠ nI q.1 := by
  intro x hx hq
  have hm : x ∈ K ++ R := by rw [List.mem_append]; exact Or.inl hx
  have h4 := (hO.1 x (tp_memR hm)).1
  have h5 := (hO.1 q (by simp)).1
  exact (tp_pair hO.2).2 x hm ((nI_eq (by omega) (by omega)).mp hq)
theorem tp_yq_yes {post : Int32 → Prop} {K R : List tp_T} {q : tp_T} (hQY : tp_QY (K ++ q :: R) wo hw wa) (hO : tp_QO (K ++ q :: R)) (h : post (nI K.length)) : wpY_queued post (tm, n, nI (K ++ q :: R).length, tu, en, ow, ta, mk, tr, lg, wo, hw, wa) (nI q.1) := by
  refine tp_yqueued hQY (tp_Q4 hO) (fun z => absurd rfl (z q (by simp))) (fun K' q' R' e hK' hq' => ?_)
  rw [← tp_one e (tp_fsK hO) rfl hK' hq']
  exact h
theorem tp_xp_no {post : Int32 → Prop} {Q : List tp_T} {c : Nat} (hQ : tp_QQ Q qu) (hO : tp_QO Q) (hc : c < 4) (hn : ∀ q, q ∈ Q → q.1 ≠ c) (h : post (-4)) : ∃ m : Nat, wX_place_11 post (nI c) n lv (nI Q.length) tm tu en ow ta mk wf tr lg wk wt qu m 0 := by
  refine ⟨Q.length + 1, tp_xp11 hQ (tp_Q4 hO) (fun _ => h) (fun K q R e _ hq => ?_) Q [] (Q.length + 1) rfl (by simp) (by omega)⟩
  have hm : q ∈ Q := by rw [e]; simp
  have h4 := (hO.1 q hm).1
  exact absurd ((nI_eq (by omega) (by omega)).mp hq) (hn q hm)
theorem tp_xp_yes {post : Int32 → Prop} {K R : List tp_T} {q : tp_T} (hQ : tp_QQ (K ++ q :: R) qu) (hO : tp_QO (K ++ q :: R)) (h : post (nI K.length)) : ∃ m : Nat, wX_place_11 post (nI q.1) n lv (nI (K ++ q :: R).length) tm tu en ow ta mk wf tr lg wk wt qu m 0 := by
  refine ⟨(K ++ q :: R).length + 1, tp_xp11 hQ (tp_Q4 hO) (fun z => absurd rfl (z q (by simp))) (fun K' q' R' e hK' hq' => ?_) (K ++ q :: R) [] ((K ++ q :: R).length + 1) rfl (by simp) (by omega)⟩
  rw [← tp_one e (tp_fsK hO) rfl hK' hq']
  exact h
end
/-- the two spaces hold the same entries, in the order of their age, and the same queue -/
def i_Rel (k : Nat) (u : SX) (v : SY) : Prop :=
  ∃ (L : List tp_E) (Q : List tp_T) (t : Nat) (lv : Int32) (tr lg tu en ow ta mk wf wk wt qu tu2 en2 ow2 ta2 mk2 wo hw wa : Nat → Int32),
    u = (nI L.length, lv, nI Q.length, nI t, tu, en, ow, ta, mk, wf, tr, lg, wk, wt, qu) ∧ v = (nI t, nI L.length, nI Q.length, tu2, en2, ow2, ta2, mk2, tr, lg, wo, hw, wa) ∧ tp_X L tu en ow ta mk wf ∧ tp_Y L tu2 en2 ow2 ta2 mk2 ∧ tp_QQ Q qu ∧ tp_QY Q wo hw wa ∧ tp_K Q wk wt ∧ tp_QO Q ∧ t ≤ 50 * k
theorem tp_rel {k : Nat} {L : List tp_E} {Q : List tp_T} {t : Nat} {lv : Int32} {tr lg tu en ow ta mk wf wk wt qu tu2 en2 ow2 ta2 mk2 wo hw wa : Nat → Int32}
    (hX : tp_X L tu en ow ta mk wf) (hY : tp_Y L tu2 en2 ow2 ta2 mk2) (hQ : tp_QQ Q qu) (hQY : tp_QY Q wo hw wa) (hK : tp_K Q wk wt) (hO : tp_QO Q) (ht : t ≤ 50 * k) : i_Rel k (nI L.length, lv, nI Q.length, nI t, tu, en, ow, ta, mk, wf, tr, lg, wk, wt, qu) (nI t, nI L.length, nI Q.length, tu2, en2, ow2, ta2, mk2, tr, lg, wo, hw, wa) :=
  ⟨L, Q, t, lv, tr, lg, tu, en, ow, ta, mk, wf, wk, wt, qu, tu2, en2, ow2, ta2, mk2, wo, hw, wa, rfl, rfl, hX, hY, hQ, hQY, hK, hO, ht⟩
theorem i_up {k : Nat} {u : SX} {v : SY} (h : i_Rel k u v) : i_Rel (k + 4) u v := by
  obtain ⟨L, Q, t, lv, tr, lg, tu, en, ow, ta, mk, wf, wk, wt, qu, tu2, en2, ow2, ta2, mk2, wo, hw, wa, e1, e2, hX, hY, hQ, hQY, hK, hO, ht⟩ := h
  exact ⟨L, Q, t, lv, tr, lg, tu, en, ow, ta, mk, wf, wk, wt, qu, tu2, en2, ow2, ta2, mk2, wo, hw, wa, e1, e2, hX, hY, hQ, hQY, hK, hO, by omega⟩
theorem i_vc0 : wpX_init (fun u => wpY_init (fun v => i_Rel 0 u v)) := by
  have v0 : vp_in 0 4 := vp_in_iff.mpr (by decide)
  have v1 : vp_in (0 + 1) 4 := vp_in_iff.mpr (by decide)
  have v2 : vp_in (0 + 1 + 1) 4 := vp_in_iff.mpr (by decide)
  have v3 : vp_in (0 + 1 + 1 + 1) 4 := vp_in_iff.mpr (by decide)
  have hY : tp_Y [] (fun _ => 0) (fun _ => 0) (fun _ => 0) (fun _ => 0) (fun _ => 0) := ⟨by simp, fun i e h => by simp at h, fun e h => by simp at h⟩
  unfold wpX_init wpY_init
  refine ⟨5, br_f (by decide) ⟨v0, nm_e (nm_e (br_f (by decide) ⟨v1, nm_e (nm_e (br_f (by decide) ⟨v2, nm_e (nm_e (br_f (by decide) ⟨v3, nm_e (nm_e (br_t (by decide) ?_))⟩))⟩))⟩))⟩⟩
  refine ⟨5, br_f (by decide) ⟨v0, nm_e (nm_e (br_f (by decide) ⟨v1, nm_e (nm_e (br_f (by decide) ⟨v2, nm_e (nm_e (br_f (by decide) ⟨v3, nm_e (nm_e (br_t (by decide) ?_))⟩))⟩))⟩))⟩⟩
  exact tp_rel (L := []) (Q := []) (t := 0) ⟨hY, fun f hf => rfl⟩ hY (fun i q h => by simp at h) (fun i q h => by simp at h) ⟨fun q h => by simp at h, fun c hc _ => rfl⟩ ⟨fun q h => by simp at h, List.Pairwise.nil⟩ (by omega)
theorem i_vc_given {k : Nat} {u : SX} {v : SY} (I : i_Rel k u v) (hk : k + 4 ≤ 2048) (v1 : Int32) : wpX_given (fun r => wpY_given (fun r' => r' = r ∧ i_Rel (k + 4) u v) v v1) u v1 := by
  have J := i_up I
  obtain ⟨L, Q, t, lv, tr, lg, tu, en, ow, ta, mk, wf, wk, wt, qu, tu2, en2, ow2, ta2, mk2, wo, hw, wa, rfl, rfl, hX, hY, hQ, hQY, hK, hO, ht⟩ := I
  unfold wpX_given wpY_given
  dsimp only
  rcases tp_rg v1 3 (by decide) with ⟨c, hc, rfl⟩ | hb
  · have vc : vp_in (nI c) 4 := vp_in_nI (by omega) (by omega)
    exact tp_xcl_t (by omega) (br_f (by decide) ⟨vc, tp_ycl_t (by omega) (br_f (by decide) ⟨vc, rfl, J⟩)⟩)
  · exact tp_xcl_f hb (br_t rfl (tp_ycl_f hb (br_t rfl ⟨rfl, J⟩)))
theorem i_vc_begin {k : Nat} {u : SX} {v : SY} (I : i_Rel k u v) (hk : k + 4 ≤ 2048) (v1 : Int32) : wpX_begin (fun r u' => wpY_begin (fun r' v' => r' = r ∧ i_Rel (k + 4) u' v') v v1) u v1 := by
  have J := i_up I
  obtain ⟨L, Q, t, lv, tr, lg, tu, en, ow, ta, mk, wf, wk, wt, qu, tu2, en2, ow2, ta2, mk2, wo, hw, wa, rfl, rfl, hX, hY, hQ, hQY, hK, hO, ht⟩ := I
  unfold wpX_begin wpY_begin
  dsimp only
  rcases tp_rg v1 3 (by decide) with ⟨c, hc, rfl⟩ | hb
  · have hc4 : c < 4 := by omega
    have vc : vp_in (nI c) 4 := vp_in_nI hc4 (by omega)
    have cc : (nI c).toNatClampNeg = c := nI_clamp (by omega)
    rw [cc]
    refine tp_xcl_t hc4 (br_f (by decide) ⟨vc, ?_⟩)
    rcases tp_dec hK hO hc4 with ⟨z, hn⟩ | ⟨z, K, q, R, rfl, rfl⟩
    · refine br_t z ⟨vc, br_c (fun y => ⟨vc, nm_e ?_⟩) (fun y => ?_)⟩
      · exact tp_ycl_t hc4 (br_f (by decide) (tp_yq_no hQY hO hc4 hn (br_f (by decide) ⟨vc, br_t y ⟨vc, nm_e ⟨rfl, tp_rel hX hY hQ hQY hK hO (by omega)⟩⟩⟩)))
      · exact tp_ycl_t hc4 (br_f (by decide) (tp_yq_no hQY hO hc4 hn (br_f (by decide) ⟨vc, br_f y ⟨rfl, J⟩⟩)))
    · have h4 := tp_Q4 hO
      rw [List.length_append] at h4
      exact br_f z (tp_ycl_t hc4 (br_f (by decide) (tp_yq_yes hQY hO (br_t (nI_pos' (by omega)) ⟨rfl, J⟩))))
  · exact tp_xcl_f hb (br_t rfl (tp_ycl_f hb (br_t rfl ⟨rfl, J⟩)))
theorem i_vc_state {k : Nat} {u : SX} {v : SY} (I : i_Rel k u v) (hk : k + 4 ≤ 2048) (v1 : Int32) : wpX_state (fun r => wpY_state (fun r' => r' = r ∧ i_Rel (k + 4) u v) v v1) u v1 := by
  have J := i_up I
  obtain ⟨L, Q, t, lv, tr, lg, tu, en, ow, ta, mk, wf, wk, wt, qu, tu2, en2, ow2, ta2, mk2, wo, hw, wa, rfl, rfl, hX, hY, hQ, hQY, hK, hO, ht⟩ := I
  unfold wpX_state wpY_state wY_state_32
  dsimp only
  rcases tp_rg v1 3 (by decide) with ⟨c, hc, rfl⟩ | hb
  · have hc4 : c < 4 := by omega
    have vc : vp_in (nI c) 4 := vp_in_nI hc4 (by omega)
    have cc : (nI c).toNatClampNeg = c := nI_clamp (by omega)
    rw [cc]
    refine tp_xcl_t hc4 (br_f (by decide) ⟨vc, ?_⟩)
    rcases tp_dec hK hO hc4 with ⟨z, hn⟩ | ⟨z, K, q, R, rfl, rfl⟩
    · refine br_c (fun y => ⟨vc, ?_⟩) (fun y => ⟨vc, ?_⟩)
      · exact tp_ycl_t hc4 (br_f (by decide) (tp_yq_no hQY hO hc4 hn (br_f (by decide) ⟨vc, br_t y ⟨by rw [z]; rfl, J⟩⟩)))
      · exact tp_ycl_t hc4 (br_f (by decide) (tp_yq_no hQY hO hc4 hn (br_f (by decide) ⟨vc, br_f y ⟨by rw [z], J⟩⟩)))
    · have h4 := tp_Q4 hO
      rw [List.length_append, List.length_cons] at h4
      have vk : vp_in (nI K.length) 4 := vp_in_nI (by omega) (by omega)
      have ck : (nI K.length).toNatClampNeg = K.length := nI_clamp (by omega)
      have hh : hw (nI K.length).toNatClampNeg + 1 = wk q.1 := by
        rw [ck, (tp_QY_at hQY).2.1, (hK.1 q (by simp)).1, nI_1]
      refine br_c (fun y => ⟨vc, ?_⟩) (fun y => ⟨vc, ?_⟩)
      · exact tp_ycl_t hc4 (br_f (by decide) (tp_yq_yes hQY hO (br_t (nI_pos' (by omega)) ⟨vk, vc, br_t y ⟨by rw [hh, Int32.add_zero], J⟩⟩)))
      · exact tp_ycl_t hc4 (br_f (by decide) (tp_yq_yes hQY hO (br_t (nI_pos' (by omega)) ⟨vk, vc, br_f y ⟨by rw [hh], J⟩⟩)))
  · exact tp_xcl_f hb (br_t rfl (tp_ycl_f hb (br_t rfl ⟨rfl, J⟩)))
theorem i_vc_place {k : Nat} {u : SX} {v : SY} (I : i_Rel k u v) (hk : k + 4 ≤ 2048) (v1 : Int32) : wpX_place (fun r => wpY_place (fun r' => r' = r ∧ i_Rel (k + 4) u v) v v1) u v1 := by
  have J := i_up I
  obtain ⟨L, Q, t, lv, tr, lg, tu, en, ow, ta, mk, wf, wk, wt, qu, tu2, en2, ow2, ta2, mk2, wo, hw, wa, rfl, rfl, hX, hY, hQ, hQY, hK, hO, ht⟩ := I
  unfold wpX_place wpY_place
  dsimp only
  rcases tp_rg v1 3 (by decide) with ⟨c, hc, rfl⟩ | hb
  · have hc4 : c < 4 := by omega
    refine tp_xcl_t hc4 (br_f (by decide) ?_)
    rcases tp_dec hK hO hc4 with ⟨z, hn⟩ | ⟨z, K, q, R, rfl, rfl⟩
    · exact tp_xp_no hQ hO hc4 hn (tp_ycl_t hc4 (br_f (by decide) (tp_yq_no hQY hO hc4 hn (br_f (by decide) ⟨rfl, J⟩))))
    · have h4 := tp_Q4 hO
      rw [List.length_append] at h4
      exact tp_xp_yes hQ hO (tp_ycl_t hc4 (br_f (by decide) (tp_yq_yes hQY hO (br_t (nI_pos' (by omega)) ⟨rfl, J⟩))))
  · exact tp_xcl_f hb (br_t rfl (tp_ycl_f hb (br_t rfl ⟨rfl, J⟩)))
theorem i_vc_cancel {k : Nat} {u : SX} {v : SY} (I : i_Rel k u v) (hk : k + 4 ≤ 2048) (v1 : Int32) : wpX_cancel (fun r u' => wpY_cancel (fun r' v' => r' = r ∧ i_Rel (k + 4) u' v') v v1) u v1 := by
  have J := i_up I
  obtain ⟨L, Q, t, lv, tr, lg, tu, en, ow, ta, mk, wf, wk, wt, qu, tu2, en2, ow2, ta2, mk2, wo, hw, wa, rfl, rfl, hX, hY, hQ, hQY, hK, hO, ht⟩ := I
  unfold wpX_cancel wpY_cancel
  dsimp only
  rcases tp_rg v1 3 (by decide) with ⟨c, hc, rfl⟩ | hb
  · have hc4 : c < 4 := by omega
    have vc : vp_in (nI c) 4 := vp_in_nI hc4 (by omega)
    have cc : (nI c).toNatClampNeg = c := nI_clamp (by omega)
    rw [cc]
    refine tp_xcl_t hc4 (br_f (by decide) ⟨vc, ?_⟩)
    rcases tp_dec hK hO hc4 with ⟨z, hn⟩ | ⟨z, K, q, R, rfl, rfl⟩
    · exact br_t z (tp_yq_no hQY hO hc4 hn (tp_ycl_t hc4 (br_f (by decide) (br_f (by decide) ⟨rfl, J⟩))))
    · have h4 := tp_Q4 hO
      have h5 := h4
      rw [List.length_append] at h5
      refine br_f z ⟨vc, nm_e (tp_xleave hO hQ rfl (fun qu' hQ' => ?_))⟩
      exact tp_yq_yes hQY hO (tp_ycl_t hc4 (br_f (by decide) (br_t (nI_pos' (by omega)) (tp_ystop h4 rfl hQY (fun wo' hw' wa' hQY' => ⟨rfl, tp_rel hX hY hQ' hQY' (tp_K_rm hO.2 hK) (tp_QO_rm hO) (by omega)⟩)))))
  · exact tp_xcl_f hb (br_t rfl (tp_yqueued hQY (tp_Q4 hO) (fun _ => tp_ycl_f hb (br_t rfl ⟨rfl, J⟩)) (fun K q R _ _ _ => tp_ycl_f hb (br_t rfl ⟨rfl, J⟩))))
theorem i_vc_entries {k : Nat} {u : SX} {v : SY} (I : i_Rel k u v) (hk : k + 4 ≤ 2048) : wpX_entries (fun r => wpY_entries (fun r' => r' = r ∧ i_Rel (k + 4) u v) v) u := by
  have J := i_up I
  obtain ⟨L, Q, t, lv, tr, lg, tu, en, ow, ta, mk, wf, wk, wt, qu, tu2, en2, ow2, ta2, mk2, wo, hw, wa, rfl, rfl, hX, hY, hQ, hQY, hK, hO, ht⟩ := I
  exact ⟨rfl, J⟩
theorem i_vc_level {k : Nat} {u : SX} {v : SY} (I : i_Rel k u v) (hk : k + 4 ≤ 2048) (v1 : Int32) : wpX_level (fun r u' => wpY_level (fun r' => r' = r ∧ i_Rel (k + 4) u' v) v v1) u v1 := by
  have J := i_up I
  obtain ⟨L, Q, t, lv, tr, lg, tu, en, ow, ta, mk, wf, wk, wt, qu, tu2, en2, ow2, ta2, mk2, wo, hw, wa, rfl, rfl, hX, hY, hQ, hQY, hK, hO, ht⟩ := I
  unfold wpX_level wpY_level
  dsimp only
  rcases tp_rg v1 1 (by decide) with ⟨c, hc, rfl⟩ | hb
  · refine br_f (nI_pos (by omega)) (br_t (nI_le (b := 1) hc (by decide)) ?_)
    have J2 : i_Rel (k + 4) (nI L.length, nI c, nI Q.length, nI t, tu, en, ow, ta, mk, wf, tr, lg, wk, wt, qu) (nI t, nI L.length, nI Q.length, tu2, en2, ow2, ta2, mk2, tr, lg, wo, hw, wa) := tp_rel hX hY hQ hQY hK hO (by omega)
    obtain rfl | rfl : c = 0 ∨ c = 1 := by omega
    · exact br_t rfl ⟨rfl, J2⟩
    · exact br_f (by decide) (br_t rfl ⟨rfl, J2⟩)
  · have h0 : ¬ v1 = 0 := fun z => by
      subst z
      exact hb.elim (by decide) (by decide)
    have h1 : ¬ v1 = 1 := fun z => by
      subst z
      exact hb.elim (by decide) (by decide)
    refine br_c (fun _ => br_f h0 (br_f h1 ⟨rfl, J⟩)) (fun z => br_f (fun y => ?_) (br_f h0 (br_f h1 ⟨rfl, J⟩)))
    exact hb.elim z (Int32.not_lt.mpr y)
theorem i_vc_next {k : Nat} {u : SX} {v : SY} (I : i_Rel k u v) (hk : k + 4 ≤ 2048) : wpX_next (fun r => wpY_next (fun r' => r' = r ∧ i_Rel (k + 4) u v) v) u := by
  have J := i_up I
  obtain ⟨L, Q, t, lv, tr, lg, tu, en, ow, ta, mk, wf, wk, wt, qu, tu2, en2, ow2, ta2, mk2, wo, hw, wa, rfl, rfl, hX, hY, hQ, hQY, hK, hO, ht⟩ := I
  unfold wpX_next wpY_next
  dsimp only
  exact ⟨L.length + 1, tp_xnext5 hX.1 L [] (L.length + 1) (-4) rfl (by omega) ⟨L.length + 1, tp_ynext5 hY L [] (L.length + 1) (-4) rfl (by omega) ⟨rfl, J⟩⟩⟩
theorem i_vc_count {k : Nat} {u : SX} {v : SY} (I : i_Rel k u v) (hk : k + 4 ≤ 2048) (v1 : Int32) (v2 : Int32) : wpX_count (fun r => wpY_count (fun r' => r' = r ∧ i_Rel (k + 4) u v) v v1 v2) u v1 v2 := by
  have J := i_up I
  obtain ⟨L, Q, t, lv, tr, lg, tu, en, ow, ta, mk, wf, wk, wt, qu, tu2, en2, ow2, ta2, mk2, wo, hw, wa, rfl, rfl, hX, hY, hQ, hQY, hK, hO, ht⟩ := I
  unfold wpX_count wpY_count
  dsimp only
  rcases tp_rg v1 3 (by decide) with ⟨c, hc, rfl⟩ | hb
  · rcases tp_rg v2 288 (by decide) with ⟨w, hw288, rfl⟩ | hb
    · refine tp_xcl_t (by omega) (br_f (by decide) (tp_xte_t hw288 (br_f (by decide) (tp_xstop hw288 hX ⟨L.length + 1, ?_⟩ (fun hz => ⟨1, br_t (Int32.le_refl _) ?_⟩)))))
      · refine tp_xcount28 hX.1 L [] (L.length + 1) 0 rfl (by omega) ?_
        exact tp_ycl_t (by omega) (br_f (by decide) (tp_yin_t (nI_pos (by omega)) (nI_nlt (a := 288) hw288 (by decide)) (br_f (by decide) ⟨L.length + 1, tp_ycount27 hY L [] (L.length + 1) 0 rfl (by omega) ⟨rfl, J⟩⟩)))
      · exact tp_ycl_t (by omega) (br_f (by decide) (tp_yin_t (nI_pos (by omega)) (nI_nlt (a := 288) hw288 (by decide)) (br_f (by decide) ⟨L.length + 1, tp_ycount27 hY L [] (L.length + 1) 0 rfl (by omega) ⟨tp_cn_0 L 0 hz, J⟩⟩)))
    · exact tp_xcl_t (by omega) (br_f (by decide) (tp_xte_f hb (br_t rfl (tp_ycl_t (by omega) (br_f (by decide) (tp_yin_f hb (br_t rfl ⟨rfl, J⟩)))))))
  · exact tp_xcl_f hb (br_t rfl (tp_ycl_f hb (br_t rfl ⟨rfl, J⟩)))
theorem i_vc_seen {k : Nat} {u : SX} {v : SY} (I : i_Rel k u v) (hk : k + 4 ≤ 2048) (v1 : Int32) (v2 : Int32) (v3 : Int32) : wpX_seen (fun r => wpY_seen (fun r' => r' = r ∧ i_Rel (k + 4) u v) v v1 v2 v3) u v1 v2 v3 := by
  have J := i_up I
  obtain ⟨L, Q, t, lv, tr, lg, tu, en, ow, ta, mk, wf, wk, wt, qu, tu2, en2, ow2, ta2, mk2, wo, hw, wa, rfl, rfl, hX, hY, hQ, hQY, hK, hO, ht⟩ := I
  unfold wpX_seen wpY_seen
  dsimp only
  rcases tp_rg v1 3 (by decide) with ⟨c, hc, rfl⟩ | hb
  · rcases tp_rg v2 288 (by decide) with ⟨w, hw288, rfl⟩ | hb
    · refine tp_xcl_t (by omega) (br_f (by decide) (tp_xte_t hw288 (br_f (by decide) (tp_xstop hw288 hX ⟨L.length + 1, ?_⟩ (fun hz => ⟨1, br_t (Int32.le_refl _) ?_⟩)))))
      · refine tp_xseen29 hX.1 L [] (L.length + 1) 0 rfl (by omega) ?_
        exact tp_ycl_t (by omega) (br_f (by decide) (tp_yin_t (nI_pos (by omega)) (nI_nlt (a := 288) hw288 (by decide)) (br_f (by decide) ⟨L.length + 1, tp_yseen28 hY L [] (L.length + 1) 0 rfl (by omega) ⟨rfl, J⟩⟩)))
      · exact tp_ycl_t (by omega) (br_f (by decide) (tp_yin_t (nI_pos (by omega)) (nI_nlt (a := 288) hw288 (by decide)) (br_f (by decide) ⟨L.length + 1, tp_yseen28 hY L [] (L.length + 1) 0 rfl (by omega) ⟨tp_sn_0 L 0 hz, J⟩⟩)))
    · exact tp_xcl_t (by omega) (br_f (by decide) (tp_xte_f hb (br_t rfl (tp_ycl_t (by omega) (br_f (by decide) (tp_yin_f hb (br_t rfl ⟨rfl, J⟩)))))))
  · exact tp_xcl_f hb (br_t rfl (tp_ycl_f hb (br_t rfl ⟨rfl, J⟩)))
theorem i_vc_put {k : Nat} {u : SX} {v : SY} (I : i_Rel k u v) (hk : k + 4 ≤ 2048) (v1 : Int32) (v2 : Int32) (v3 : Int32) : wpX_put (fun r u' => wpY_put (fun r' v' => r' = r ∧ i_Rel (k + 4) u' v') v v1 v2 v3) u v1 v2 v3 := by
  have J := i_up I
  obtain ⟨L, Q, t, lv, tr, lg, tu, en, ow, ta, mk, wf, wk, wt, qu, tu2, en2, ow2, ta2, mk2, wo, hw, wa, rfl, rfl, hX, hY, hQ, hQY, hK, hO, ht⟩ := I
  unfold wpX_put wpY_put
  dsimp only
  rcases tp_rg v1 3 (by decide) with ⟨c, hc, rfl⟩ | hb
  · have hc4 : c < 4 := by omega
    have vc : vp_in (nI c) 4 := vp_in_nI hc4 (by omega)
    have cc : (nI c).toNatClampNeg = c := nI_clamp (by omega)
    rcases tp_rg v2 255 (by decide) with ⟨j, hj, rfl⟩ | hb
    · have b1 : ¬ nI j < 0 := nI_pos (by omega)
      have b2 : ¬ (255 : Int32) < nI j := nI_nlt (a := 255) hj (by decide)
      rcases tp_rg v3 100 (by decide) with ⟨l, hl, rfl⟩ | hb
      · have b3 : ¬ nI l < 0 := nI_pos (by omega)
        have b4 : ¬ (100 : Int32) < nI l := nI_nlt (a := 100) hl (by decide)
        rw [cc]
        refine tp_xcl_t hc4 (br_f (by decide) (br_f b1 (br_f b2 (br_f b3 (br_t (nI_le (b := 100) hl (by decide)) ⟨vc, ?_⟩)))))
        rcases tp_dec hK hO hc4 with ⟨z, hn⟩ | ⟨z, K, q, R, rfl, rfl⟩
        · refine br_t z ?_
          have h20 := hX.1.1
          by_cases hl20 : L.length < 20
          · have hok : tp_ok (tp_new (tr c) (nI t) (nI c) (nI j) (nI l)) := tp_ok_new (by omega) (by omega) hc4
            have v0 : vp_in (nI L.length) 20 := vp_in_nI hl20 (by omega)
            have c0 : (nI L.length).toNatClampNeg = L.length := nI_clamp (by omega)
            have n20 : ¬ nI L.length = 20 := fun y => by
              have := (nI_eq (a := L.length) (b := 20) (by omega) (by omega)).mp y
              omega
            refine br_t (nI_lt (b := 20) hl20 (by decide)) (tp_xadd hc4 (by omega) hl20 hok hX (fun tu' en' ow' ta' mk' wf' hX' => tp_xserve hX' hQ hO hK (fun tu'' en'' ow'' ta'' mk'' wf'' wk'' qu'' hX'' hQ'' hK'' => ?_)))
            refine tp_ycl_t hc4 (br_f (by decide) (tp_yin_t b1 b2 (br_f (by decide) (tp_yin_t b3 b4 (br_f (by decide) (tp_yq_no hQY hO hc4 hn (br_t (by decide) (br_f n20 ⟨v0, nm_r (by rw [c0]) ?_⟩))))))))
            exact br_c (fun y => tp_yput88 hc4 hl20 hok (by rw [if_pos y]) hY hQY hO (fun _ _ _ _ _ _ _ _ hY' hQY' => ⟨rfl, tp_rel hX'' hY' hQ'' hQY' hK'' (tp_sv_QO hO) (by omega)⟩))
              (fun y => tp_yput88 hc4 hl20 hok (by rw [if_neg y]) hY hQY hO (fun _ _ _ _ _ _ _ _ hY' hQY' => ⟨rfl, tp_rel hX'' hY' hQ'' hQY' hK'' (tp_sv_QO hO) (by omega)⟩))
          · have e20 : L.length = 20 := by omega
            have n20 : nI L.length = 20 := by rw [e20]; rfl
            exact br_f (nI_nlt (b := 20) (by omega) (by omega)) (tp_ycl_t hc4 (br_f (by decide) (tp_yin_t b1 b2 (br_f (by decide) (tp_yin_t b3 b4 (br_f (by decide) (tp_yq_no hQY hO hc4 hn (br_t (by decide) (br_t n20 ⟨rfl, J⟩)))))))))
        · have h4 := tp_Q4 hO
          rw [List.length_append] at h4
          exact br_f z (tp_ycl_t hc4 (br_f (by decide) (tp_yin_t b1 b2 (br_f (by decide) (tp_yin_t b3 b4 (br_f (by decide) (tp_yq_yes hQY hO (br_f (nI_pos (by omega)) ⟨rfl, J⟩))))))))
      · refine tp_xcl_t hc4 (br_f (by decide) (br_f b1 (br_f b2 (br_c (fun _ => ?_) (fun z => br_f (fun y => hb.elim z (Int32.not_lt.mpr y)) ?_)))))
        · exact tp_ycl_t hc4 (br_f (by decide) (tp_yin_t b1 b2 (br_f (by decide) (tp_yin_f hb (br_t rfl ⟨rfl, J⟩)))))
        · exact tp_ycl_t hc4 (br_f (by decide) (tp_yin_t b1 b2 (br_f (by decide) (tp_yin_f hb (br_t rfl ⟨rfl, J⟩)))))
    · refine tp_xcl_t hc4 (br_f (by decide) (br_c (fun _ => ?_) (fun z => br_t (hb.elim (fun y => absurd y z) id) ?_)))
      · exact tp_ycl_t hc4 (br_f (by decide) (tp_yin_f hb (br_t rfl ⟨rfl, J⟩)))
      · exact tp_ycl_t hc4 (br_f (by decide) (tp_yin_f hb (br_t rfl ⟨rfl, J⟩)))
  · exact tp_xcl_f hb (br_t rfl (tp_ycl_f hb (br_t rfl ⟨rfl, J⟩)))
theorem i_vc_ask {k : Nat} {u : SX} {v : SY} (I : i_Rel k u v) (hk : k + 4 ≤ 2048) (v1 : Int32) (v2 : Int32) (v3 : Int32) : wpX_ask (fun r u' => wpY_ask (fun r' v' => r' = r ∧ i_Rel (k + 4) u' v') v v1 v2 v3) u v1 v2 v3 := by
  have J := i_up I
  obtain ⟨L, Q, t, lv, tr, lg, tu, en, ow, ta, mk, wf, wk, wt, qu, tu2, en2, ow2, ta2, mk2, wo, hw, wa, rfl, rfl, hX, hY, hQ, hQY, hK, hO, ht⟩ := I
  unfold wpX_ask wpY_ask
  dsimp only
  rcases tp_rg v1 3 (by decide) with ⟨c, hc, rfl⟩ | hb
  · have hc4 : c < 4 := by omega
    have vc : vp_in (nI c) 4 := vp_in_nI hc4 (by omega)
    have cc : (nI c).toNatClampNeg = c := nI_clamp (by omega)
    rcases tp_rg v2 3 (by decide) with ⟨h, hh, rfl⟩ | hb
    · have b1 : ¬ nI h < 0 := nI_pos (by omega)
      have b2 : ¬ (3 : Int32) < nI h := nI_nlt (a := 3) hh (by decide)
      rcases tp_rg v3 288 (by decide) with ⟨w, hw288, rfl⟩ | hb
      · have b3 : ¬ nI w < 0 := nI_pos (by omega)
        have b4 : ¬ (288 : Int32) < nI w := nI_nlt (a := 288) hw288 (by decide)
        rw [cc]
        refine tp_xcl_t hc4 (br_f (by decide) (br_f b1 (br_f b2 (tp_xte_t hw288 (br_f (by decide) ⟨vc, ?_⟩)))))
        rcases tp_dec hK hO hc4 with ⟨z, hn⟩ | ⟨z, K, q, R, rfl, rfl⟩
        · refine br_t z ⟨by decide, ?_⟩
          by_cases hp : nI h - nI h / 2 * 2 = 0
          · have hp1 : ¬ nI h - nI h / 2 * 2 = 1 := by rw [hp]; decide
            have hkw : h < 2 → (1 : Int32) = nI (h + 1) := fun h2 => by
              obtain rfl | rfl : h = 0 ∨ h = 1 := by omega
              · rfl
              · exact absurd hp (by decide)
            refine br_t hp ?_
            have Y : ∀ (r : Int32) (u' : SX),
                (∀ a L', tp_gv false (tr c) (nI c) (nI w) L = some (a, L') → ∀ tu' en' ow' ta' mk' : Nat → Int32, tp_Y L' tu' en' ow' ta' mk' → a = r ∧ i_Rel (k + 4) u' (nI t, nI L'.length, nI Q.length, tu', en', ow', ta', mk', tr, upd lg c a, wo, hw, wa)) →
                (tp_gv false (tr c) (nI c) (nI w) L = none → 2 ≤ h → -4 = r ∧ i_Rel (k + 4) u' (nI t, nI L.length, nI Q.length, tu2, en2, ow2, ta2, mk2, tr, lg, wo, hw, wa)) →
                (tp_gv false (tr c) (nI c) (nI w) L = none → h < 2 → ∀ wo' hw' wa' : Nat → Int32, tp_QY (Q ++ [(c, h, w)]) wo' hw' wa' → -4 = r ∧ i_Rel (k + 4) u' (nI t, nI L.length, nI (Q ++ [(c, h, w)]).length, tu2, en2, ow2, ta2, mk2, tr, lg, wo', hw', wa')) →
                wY_ask_57 (fun r' v' => r' = r ∧ i_Rel (k + 4) u' v') (nI c) (nI h) (nI w) 0 (nI c) (nI t) (nI L.length) (nI Q.length) tu2 en2 ow2 ta2 mk2 tr lg wo hw wa :=
              fun r u' y1 y2 y3 => tp_yask57 (tk := false) rfl hh hc4 hY hQY hO hn y1 y2 y3
            refine tp_xask48 (tk := false) rfl hh hkw hc4 hw288 hX hQ hO hK hn ?_ ?_ ?_
            · intro a L' hs tu' en' ow' ta' mk' wf' hX'
              refine tp_ycl_t hc4 (br_f (by decide) (tp_yin_t b1 b2 (br_f (by decide) (tp_yin_t b3 b4 (br_f (by decide) (tp_yq_no hQY hO hc4 hn (br_t (by decide) ⟨by decide, br_f hp1 (Y _ _ ?_ ?_ ?_)⟩)))))))
              · intro a2 L2 hs2 tu'' en'' ow'' ta'' mk'' hY'
                rw [hs] at hs2
                injection hs2 with hs2
                injection hs2 with e1 e2
                subst e1 e2
                exact ⟨rfl, tp_rel hX' hY' hQ hQY hK hO (by omega)⟩
              · intro hg; rw [hs] at hg; exact absurd hg (by simp)
              · intro hg; rw [hs] at hg; exact absurd hg (by simp)
            · intro hg h2
              refine tp_ycl_t hc4 (br_f (by decide) (tp_yin_t b1 b2 (br_f (by decide) (tp_yin_t b3 b4 (br_f (by decide) (tp_yq_no hQY hO hc4 hn (br_t (by decide) ⟨by decide, br_f hp1 (Y _ _ ?_ ?_ ?_)⟩)))))))
              · intro a2 L2 hs2; rw [hg] at hs2; exact absurd hs2 (by simp)
              · intro _ _; exact ⟨rfl, J⟩
              · intro _ h3; omega
            · intro hg h2 wk' wt' qu' hQ' hK'
              refine tp_ycl_t hc4 (br_f (by decide) (tp_yin_t b1 b2 (br_f (by decide) (tp_yin_t b3 b4 (br_f (by decide) (tp_yq_no hQY hO hc4 hn (br_t (by decide) ⟨by decide, br_f hp1 (Y _ _ ?_ ?_ ?_)⟩)))))))
              · intro a2 L2 hs2; rw [hg] at hs2; exact absurd hs2 (by simp)
              · intro _ h3; omega
              · intro _ _ wo' hw' wa' hQY'; exact ⟨rfl, tp_rel hX hY hQ' hQY' hK' (tp_QO_add hO hc4 h2 hw288 hn) (by omega)⟩
          · have hp1 : nI h - nI h / 2 * 2 = 1 := by
              obtain rfl | rfl | rfl | rfl : h = 0 ∨ h = 1 ∨ h = 2 ∨ h = 3 := by omega
              · exact absurd (by decide) hp
              · decide
              · exact absurd (by decide) hp
              · decide
            have hkw : h < 2 → (2 : Int32) = nI (h + 1) := fun h2 => by
              obtain rfl | rfl : h = 0 ∨ h = 1 := by omega
              · exact absurd (by decide) hp
              · rfl
            refine br_f hp ?_
            have Y : ∀ (r : Int32) (u' : SX),
                (∀ a L', tp_gv true (tr c) (nI c) (nI w) L = some (a, L') → ∀ tu' en' ow' ta' mk' : Nat → Int32, tp_Y L' tu' en' ow' ta' mk' → a = r ∧ i_Rel (k + 4) u' (nI t, nI L'.length, nI Q.length, tu', en', ow', ta', mk', tr, upd lg c a, wo, hw, wa)) →
                (tp_gv true (tr c) (nI c) (nI w) L = none → 2 ≤ h → -4 = r ∧ i_Rel (k + 4) u' (nI t, nI L.length, nI Q.length, tu2, en2, ow2, ta2, mk2, tr, lg, wo, hw, wa)) →
                (tp_gv true (tr c) (nI c) (nI w) L = none → h < 2 → ∀ wo' hw' wa' : Nat → Int32, tp_QY (Q ++ [(c, h, w)]) wo' hw' wa' → -4 = r ∧ i_Rel (k + 4) u' (nI t, nI L.length, nI (Q ++ [(c, h, w)]).length, tu2, en2, ow2, ta2, mk2, tr, lg, wo', hw', wa')) →
                wY_ask_57 (fun r' v' => r' = r ∧ i_Rel (k + 4) u' v') (nI c) (nI h) (nI w) 1 (nI c) (nI t) (nI L.length) (nI Q.length) tu2 en2 ow2 ta2 mk2 tr lg wo hw wa :=
              fun r u' y1 y2 y3 => tp_yask57 (tk := true) rfl hh hc4 hY hQY hO hn y1 y2 y3
            refine tp_xask48 (tk := true) rfl hh hkw hc4 hw288 hX hQ hO hK hn ?_ ?_ ?_
            · intro a L' hs tu' en' ow' ta' mk' wf' hX'
              refine tp_ycl_t hc4 (br_f (by decide) (tp_yin_t b1 b2 (br_f (by decide) (tp_yin_t b3 b4 (br_f (by decide) (tp_yq_no hQY hO hc4 hn (br_t (by decide) ⟨by decide, br_t hp1 (Y _ _ ?_ ?_ ?_)⟩)))))))
              · intro a2 L2 hs2 tu'' en'' ow'' ta'' mk'' hY'
                rw [hs] at hs2
                injection hs2 with hs2
                injection hs2 with e1 e2
                subst e1 e2
                exact ⟨rfl, tp_rel hX' hY' hQ hQY hK hO (by omega)⟩
              · intro hg; rw [hs] at hg; exact absurd hg (by simp)
              · intro hg; rw [hs] at hg; exact absurd hg (by simp)
            · intro hg h2
              refine tp_ycl_t hc4 (br_f (by decide) (tp_yin_t b1 b2 (br_f (by decide) (tp_yin_t b3 b4 (br_f (by decide) (tp_yq_no hQY hO hc4 hn (br_t (by decide) ⟨by decide, br_t hp1 (Y _ _ ?_ ?_ ?_)⟩)))))))
              · intro a2 L2 hs2; rw [hg] at hs2; exact absurd hs2 (by simp)
              · intro _ _; exact ⟨rfl, J⟩
              · intro _ h3; omega
            · intro hg h2 wk' wt' qu' hQ' hK'
              refine tp_ycl_t hc4 (br_f (by decide) (tp_yin_t b1 b2 (br_f (by decide) (tp_yin_t b3 b4 (br_f (by decide) (tp_yq_no hQY hO hc4 hn (br_t (by decide) ⟨by decide, br_t hp1 (Y _ _ ?_ ?_ ?_)⟩)))))))
              · intro a2 L2 hs2; rw [hg] at hs2; exact absurd hs2 (by simp)
              · intro _ h3; omega
              · intro _ _ wo' hw' wa' hQY'; exact ⟨rfl, tp_rel hX hY hQ' hQY' hK' (tp_QO_add hO hc4 h2 hw288 hn) (by omega)⟩
        · have h4 := tp_Q4 hO
          rw [List.length_append] at h4
          exact br_f z (tp_ycl_t hc4 (br_f (by decide) (tp_yin_t b1 b2 (br_f (by decide) (tp_yin_t b3 b4 (br_f (by decide) (tp_yq_yes hQY hO (br_f (nI_pos (by omega)) ⟨rfl, J⟩))))))))
      · exact tp_xcl_t hc4 (br_f (by decide) (br_f b1 (br_f b2 (tp_xte_f hb (br_t rfl (tp_ycl_t hc4 (br_f (by decide) (tp_yin_t b1 b2 (br_f (by decide) (tp_yin_f hb (br_t rfl ⟨rfl, J⟩)))))))))))
    · refine tp_xcl_t hc4 (br_f (by decide) (br_c (fun _ => ?_) (fun z => br_t (hb.elim (fun y => absurd y z) id) ?_)))
      · exact tp_ycl_t hc4 (br_f (by decide) (tp_yin_f hb (br_t rfl ⟨rfl, J⟩)))
      · exact tp_ycl_t hc4 (br_f (by decide) (tp_yin_f hb (br_t rfl ⟨rfl, J⟩)))
  · exact tp_xcl_f hb (br_t rfl (tp_ycl_f hb (br_t rfl ⟨rfl, J⟩)))
theorem tp_one1 {x : Int32} (h : x = 1) : ¬ x = 0 := by rw [h]; decide
theorem i_vc_commit {k : Nat} {u : SX} {v : SY} (I : i_Rel k u v) (hk : k + 4 ≤ 2048) (v1 : Int32) : wpX_commit (fun r u' => wpY_commit (fun r' v' => r' = r ∧ i_Rel (k + 4) u' v') v v1) u v1 := by
  have J := i_up I
  obtain ⟨L, Q, t, lv, tr, lg, tu, en, ow, ta, mk, wf, wk, wt, qu, tu2, en2, ow2, ta2, mk2, wo, hw, wa, rfl, rfl, hX, hY, hQ, hQY, hK, hO, ht⟩ := I
  unfold wpX_commit wpY_commit wpX_canEndTransaction wpY_finish
  dsimp only
  rcases tp_rg v1 3 (by decide) with ⟨c, hc, rfl⟩ | hb
  · have hc4 : c < 4 := by omega
    have vc : vp_in (nI c) 4 := vp_in_nI hc4 (by omega)
    have cc : (nI c).toNatClampNeg = c := nI_clamp (by omega)
    rw [cc]
    refine tp_xcl_t hc4 (br_f (by decide) ⟨vc, ?_⟩)
    rcases tp_dec hK hO hc4 with ⟨z, hn⟩ | ⟨z, K, q, R, rfl, rfl⟩
    · refine br_t z ⟨vc, br_c (fun y => br_t rfl ?_) (fun y => br_f (by decide) ?_)⟩
      · exact tp_ycl_t hc4 (br_f (by decide) (tp_yq_no hQY hO hc4 hn (br_f (by decide) ⟨vc, br_t y ⟨rfl, rfl, J⟩⟩)))
      · refine tp_xrt hX (fun tu' en' ow' ta' mk' wf' hX' => ⟨(L.filter (fun e => decide (e.2.2.2.1 ≠ nI c))).length + 1, ?_⟩)
        refine tp_xcommit17 hc4 hQ hO hK (L.filter (fun e => decide (e.2.2.2.1 ≠ nI c))) [] ((L.filter (fun e => decide (e.2.2.2.1 ≠ nI c))).length + 1) _ (by omega) hX' ?_
        rw [List.nil_append, tp_cc]
        intro tu'' en'' ow'' ta'' mk'' wf'' wk'' qu'' hX'' hQ'' hK''
        refine tp_ycl_t hc4 (br_f (by decide) (tp_yq_no hQY hO hc4 hn (br_f (by decide) ⟨vc, br_f y ⟨vc, nm_e (nm_e ⟨L.length + 1, ?_⟩)⟩⟩)))
        refine tp_yfin (kp := true) rfl hQY hO hY ?_
        rw [tp_st_t]
        exact fun _ _ _ _ _ _ _ _ hY' hQY' => ⟨rfl, rfl, tp_rel hX'' hY' hQ'' hQY' hK'' (tp_sv_QO hO) (by omega)⟩
    · have h4 := tp_Q4 hO
      rw [List.length_append] at h4
      exact br_f z (br_t rfl (tp_ycl_t hc4 (br_f (by decide) (tp_yq_yes hQY hO (br_t (nI_pos' (by omega)) ⟨rfl, rfl, J⟩)))))
  · exact tp_xcl_f hb (br_t rfl (br_t rfl (tp_ycl_f hb (br_t rfl ⟨rfl, rfl, J⟩))))
theorem i_vc_abort {k : Nat} {u : SX} {v : SY} (I : i_Rel k u v) (hk : k + 4 ≤ 2048) (v1 : Int32) : wpX_abort (fun r u' => wpY_abort (fun r' v' => r' = r ∧ i_Rel (k + 4) u' v') v v1) u v1 := by
  have J := i_up I
  obtain ⟨L, Q, t, lv, tr, lg, tu, en, ow, ta, mk, wf, wk, wt, qu, tu2, en2, ow2, ta2, mk2, wo, hw, wa, rfl, rfl, hX, hY, hQ, hQY, hK, hO, ht⟩ := I
  unfold wpX_abort wpY_abort wpX_canEndTransaction wpY_finish
  dsimp only
  rcases tp_rg v1 3 (by decide) with ⟨c, hc, rfl⟩ | hb
  · have hc4 : c < 4 := by omega
    have vc : vp_in (nI c) 4 := vp_in_nI hc4 (by omega)
    have cc : (nI c).toNatClampNeg = c := nI_clamp (by omega)
    rw [cc]
    refine tp_xcl_t hc4 (br_f (by decide) ⟨vc, ?_⟩)
    rcases tp_dec hK hO hc4 with ⟨z, hn⟩ | ⟨z, K, q, R, rfl, rfl⟩
    · refine br_t z ⟨vc, br_c (fun y => br_t rfl ?_) (fun y => br_f (by decide) ?_)⟩
      · exact tp_ycl_t hc4 (br_f (by decide) (tp_yq_no hQY hO hc4 hn (br_f (by decide) ⟨vc, br_t y ⟨rfl, rfl, J⟩⟩)))
      · refine tp_xro hX (fun tu' en' ow' ta' mk' wf' hX' => ⟨(L.filter (fun e => decide (e.2.2.1 ≠ nI c))).length + 1, ?_⟩)
        refine tp_xabort17 hc4 hQ hO hK (L.filter (fun e => decide (e.2.2.1 ≠ nI c))) [] ((L.filter (fun e => decide (e.2.2.1 ≠ nI c))).length + 1) _ (by omega) hX' ?_
        rw [List.nil_append, tp_ca]
        intro tu'' en'' ow'' ta'' mk'' wf'' wk'' qu'' hX'' hQ'' hK''
        refine tp_ycl_t hc4 (br_f (by decide) (tp_yq_no hQY hO hc4 hn (br_f (by decide) ⟨vc, br_f y ⟨vc, nm_e (nm_e ⟨L.length + 1, ?_⟩)⟩⟩)))
        refine tp_yfin (kp := false) rfl hQY hO hY ?_
        rw [tp_st_f]
        exact fun _ _ _ _ _ _ _ _ hY' hQY' => ⟨rfl, rfl, tp_rel hX'' hY' hQ'' hQY' hK'' (tp_sv_QO hO) (by omega)⟩
    · have h4 := tp_Q4 hO
      rw [List.length_append] at h4
      exact br_f z (br_t rfl (tp_ycl_t hc4 (br_f (by decide) (tp_yq_yes hQY hO (br_t (nI_pos' (by omega)) ⟨rfl, rfl, J⟩)))))
  · exact tp_xcl_f hb (br_t rfl (br_t rfl (tp_ycl_f hb (br_t rfl ⟨rfl, rfl, J⟩))))
theorem i_vc_pass {k : Nat} {u : SX} {v : SY} (I : i_Rel k u v) (hk : k + 4 ≤ 2048) (v1 : Int32) : wpX_pass (fun r u' => wpY_pass (fun r' v' => r' = r ∧ i_Rel (k + 4) u' v') v v1) u v1 := by
  have J := i_up I
  obtain ⟨L, Q, t, lv, tr, lg, tu, en, ow, ta, mk, wf, wk, wt, qu, tu2, en2, ow2, ta2, mk2, wo, hw, wa, rfl, rfl, hX, hY, hQ, hQY, hK, hO, ht⟩ := I
  unfold wpX_pass wpY_pass
  dsimp only
  rcases tp_rg v1 50 (by decide) with ⟨p, hp, rfl⟩ | hb
  · have b1 : ¬ nI p < 0 := nI_pos (by omega)
    have b2 : ¬ (50 : Int32) < nI p := nI_nlt (a := 50) hp (by decide)
    have h20 := hX.1.1
    refine br_f b1 (br_t (nI_le (b := 50) hp (by decide)) (nm_r (nI_add t p) (tp_xre hX (fun tu' en' ow' ta' mk' wf' hX' => tp_xserve hX' hQ hO hK (fun tu'' en'' ow'' ta'' mk'' wf'' wk'' qu'' hX'' hQ'' hK'' => ?_)))))
    have hle := List.length_filter_le (tp_nd (nI (t + p))) L
    have kY := tp_ypass35 (post := fun r' v' => r' = nI (L.length - (L.filter (tp_nd (nI (t + p)))).length) ∧ i_Rel (k + 4) (nI (tp_sv tr Q (L.filter (tp_nd (nI (t + p)))) lg).2.1.length, lv, nI (tp_sv tr Q (L.filter (tp_nd (nI (t + p)))) lg).1.length, nI (t + p), tu'', en'', ow'', ta'', mk'', wf'', tr, (tp_sv tr Q (L.filter (tp_nd (nI (t + p)))) lg).2.2, wk'', wt, qu'') v') (tm := nI (t + p)) (tr := tr) (lg := lg) (N := L.length) h20 hQY hO L.length L [] (L.length + 1) _ tu2 en2 ow2 ta2 mk2 rfl rfl (by omega) (by rw [List.append_nil]; exact hY) (by rw [List.append_nil]; exact hle)
      (by
        rw [List.append_nil]
        exact fun _ _ _ _ _ _ _ _ hY' hQY' => ⟨rfl, tp_rel hX'' hY' hQ'' hQY' hK'' (tp_sv_QO hO) (by omega)⟩)
    rw [List.append_nil] at kY
    exact tp_yin_t b1 b2 (br_f (by decide) (nm_r (nI_add t p) (nm_e ⟨L.length + 1, kY⟩)))
  · refine br_c (fun _ => ?_) (fun z => br_f (fun y => hb.elim z (Int32.not_lt.mpr y)) ?_)
    · exact tp_yin_f hb (br_t rfl ⟨rfl, J⟩)
    · exact tp_yin_f hb (br_t rfl ⟨rfl, J⟩)
end
