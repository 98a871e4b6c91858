theorem pk_us {f : Nat → Int32} {k : Nat} {x : Int32} : upd f k x k = x := if_pos rfl
theorem pk_un {f : Nat → Int32} {k j : Nat} {x : Int32} (h : j ≠ k) : upd f k x j = f j := if_neg h
theorem pk_sub {a b : Nat} (h : b ≤ a) : nI a - nI b = nI (a - b) := by
  obtain ⟨c, rfl⟩ : ∃ c, a = c + b := ⟨a - b, by omega⟩
  rw [← nI_add, Int32.add_sub_cancel, Nat.add_sub_cancel]
theorem pk_m1 (n : Nat) : nI (n + 1) + (-1) = nI n := by
  rw [← nI_1, Int32.add_assoc, show (1 : Int32) + (-1) = 0 from rfl, Int32.add_zero]
theorem pk_mul (a b : Nat) : nI a * nI b = nI (a * b) := (Int32.ofNat_mul a b).symm
theorem pk_div {a d : Nat} (ha : a < 2 ^ 31) (h0 : 0 < d) (hd : d < 2 ^ 31) : nI a / nI d = nI (a / d) := by
  apply Int32.toInt_inj.mp
  rw [lg_idiv_nonneg (by rw [nI_toInt ha]; omega) (by rw [nI_toInt hd]; omega), nI_toInt ha, nI_toInt hd, nI_toInt (Nat.lt_of_le_of_lt (Nat.div_le_self a d) ha)]
  first | rfl | exact (Int.natCast_ediv _ _).symm
theorem pk_ix (x : Int32) {n : Nat} (hn : n < 2 ^ 31) : x < 0 ∨ nI n ≤ x ∨ ∃ j : Nat, j < n ∧ x = nI j := by
  by_cases h : x < 0
  · exact Or.inl h
  · obtain ⟨j, hj, rfl⟩ := nI_of h
    by_cases h2 : j < n
    · exact Or.inr (Or.inr ⟨j, h2, rfl⟩)
    · exact Or.inr (Or.inl (nI_le (by omega) hj))
/-! the entries as a list of (tuple, end, owner, taker, marks), oldest first -/
abbrev tp_E : Type := Int32 × Int32 × Int32 × Int32 × Int32
def tp_A (L : List tp_E) (tu en ow ta mk : Nat → Int32) : Prop :=
  ∀ (i : Nat) (e : tp_E), L[i]? = some e → tu i = e.1 ∧ en i = e.2.1 ∧ ow i = e.2.2.1 ∧ ta i = e.2.2.2.1 ∧ mk i = e.2.2.2.2
def tp_ok (e : tp_E) : Prop := (∃ t : Nat, t < 256 ∧ e.1 = nI t) ∧ (e.2.1 = -1 ∨ 0 ≤ e.2.1) ∧ (e.2.2.1 = -1 ∨ 0 ≤ e.2.2.1) ∧ (e.2.2.2.1 = -1 ∨ 0 ≤ e.2.2.2.1)
def tp_fst (f : Nat) (t : Int32) : Bool := decide (t / 16 = nI f)
def tp_W (L : List tp_E) (wf : Nat → Int32) : Prop := ∀ f, f < 16 → wf f = nI ((L.map (fun e => e.1)).countP (tp_fst f))
def tp_Y (L : List tp_E) (tu en ow ta mk : Nat → Int32) : Prop := L.length ≤ 20 ∧ tp_A L tu en ow ta mk ∧ ∀ e, e ∈ L → tp_ok e
def tp_X (L : List tp_E) (tu en ow ta mk wf : Nat → Int32) : Prop := tp_Y L tu en ow ta mk ∧ tp_W L wf
theorem tp_16 : (16 : Int32) = nI 16 := rfl
theorem tp_17 : (17 : Int32) = nI 17 := rfl
/-! the shift of a removal -/
def tp_sh (a : Nat → Int32) (i m : Nat) : Nat → Int32 := fun j => if i ≤ j ∧ j < m then a (j + 1) else a j
theorem tp_sh_e (a : Nat → Int32) (m : Nat) : tp_sh a m m = a := by
  funext j
  simp only [tp_sh]
  rw [if_neg (by omega)]
theorem tp_sh_s (a : Nat → Int32) {i m : Nat} (h : i < m) : tp_sh (upd a i (a (i + 1))) (i + 1) m = tp_sh a i m := by
  funext j
  simp only [tp_sh, upd]
  by_cases h1 : i + 1 ≤ j ∧ j < m
  · rw [if_pos h1, if_neg (show ¬ j + 1 = i by omega), if_pos ⟨by omega, h1.2⟩]
  · rw [if_neg h1]
    by_cases h2 : j = i
    · subst h2
      rw [if_pos rfl, if_pos ⟨by omega, h⟩]
    · rw [if_neg h2, if_neg (by omega)]
theorem tp_A_at {A B : List tp_E} {e : tp_E} {tu en ow ta mk : Nat → Int32} (h : tp_A (A ++ e :: B) tu en ow ta mk) :
    tu A.length = e.1 ∧ en A.length = e.2.1 ∧ ow A.length = e.2.2.1 ∧ ta A.length = e.2.2.2.1 ∧ mk A.length = e.2.2.2.2 :=
  h A.length e (by simp)
theorem tp_A_rm {A B : List tp_E} {e : tp_E} {tu en ow ta mk : Nat → Int32} (h : tp_A (A ++ e :: B) tu en ow ta mk) (m : Nat) (hm : m = A.length + B.length) :
    tp_A (A ++ B) (tp_sh tu A.length m) (tp_sh en A.length m) (tp_sh ow A.length m) (tp_sh ta A.length m) (tp_sh mk A.length m) := by
  intro i x hx
  by_cases hi : i < A.length
  · have h1 : (A ++ e :: B)[i]? = some x := by
      rw [List.getElem?_append_left hi] at hx ⊢
      exact hx
    have h2 := h i x h1
    simp only [tp_sh, if_neg (show ¬ (A.length ≤ i ∧ i < m) by omega)]
    exact h2
  · rw [List.getElem?_append_right (by omega)] at hx
    have hl : i - A.length < B.length := (List.getElem?_eq_some_iff.mp hx).1
    have h1 : (A ++ e :: B)[i + 1]? = some x := by
      rw [List.getElem?_append_right (by omega), show i + 1 - A.length = (i - A.length) + 1 by omega, List.getElem?_cons_succ]
      exact hx
    have h2 := h (i + 1) x h1
    simp only [tp_sh, if_pos (show A.length ≤ i ∧ i < m by omega)]
    exact h2
theorem tp_A_set {A B : List tp_E} {e : tp_E} {tu en ow ta mk tu' en' ow' ta' mk' : Nat → Int32} (e' : tp_E) (h : tp_A (A ++ e :: B) tu en ow ta mk)
    (ha : tu' A.length = e'.1 ∧ en' A.length = e'.2.1 ∧ ow' A.length = e'.2.2.1 ∧ ta' A.length = e'.2.2.2.1 ∧ mk' A.length = e'.2.2.2.2)
    (hn : ∀ i, i ≠ A.length → tu' i = tu i ∧ en' i = en i ∧ ow' i = ow i ∧ ta' i = ta i ∧ mk' i = mk i) :
    tp_A (A ++ e' :: B) tu' en' ow' ta' mk' := by
  intro i x hx
  by_cases hi : i = A.length
  · subst hi
    have : e' = x := by simpa using hx
    subst this
    exact ha
  · have h1 : (A ++ e :: B)[i]? = some x := by
      by_cases hl : i < A.length
      · rw [List.getElem?_append_left hl] at hx ⊢
        exact hx
      · rw [List.getElem?_append_right (by omega), show i - A.length = (i - A.length - 1) + 1 by omega, List.getElem?_cons_succ] at hx ⊢
        exact hx
    obtain ⟨n1, n2, n3, n4, n5⟩ := hn i hi
    rw [n1, n2, n3, n4, n5]
    exact h i x h1
theorem tp_A_add {A : List tp_E} {tu en ow ta mk tu' en' ow' ta' mk' : Nat → Int32} (e' : tp_E) (h : tp_A A tu en ow ta mk)
    (ha : tu' A.length = e'.1 ∧ en' A.length = e'.2.1 ∧ ow' A.length = e'.2.2.1 ∧ ta' A.length = e'.2.2.2.1 ∧ mk' A.length = e'.2.2.2.2)
    (hn : ∀ i, i ≠ A.length → tu' i = tu i ∧ en' i = en i ∧ ow' i = ow i ∧ ta' i = ta i ∧ mk' i = mk i) :
    tp_A (A ++ [e']) tu' en' ow' ta' mk' := by
  intro i x hx
  by_cases hi : i = A.length
  · subst hi
    have : e' = x := by simpa using hx
    subst this
    exact ha
  · have hl : i < (A ++ [e']).length := (List.getElem?_eq_some_iff.mp hx).1
    rw [List.length_append, List.length_singleton] at hl
    have h1 : A[i]? = some x := by
      rw [List.getElem?_append_left (by omega)] at hx
      exact hx
    obtain ⟨n1, n2, n3, n4, n5⟩ := hn i hi
    rw [n1, n2, n3, n4, n5]
    exact h i x h1
theorem tp_W_rm {A B : List tp_E} {e : tp_E} {wf : Nat → Int32} (h : tp_W (A ++ e :: B) wf) {g : Nat} (hg : g < 16) (he : e.1 / 16 = nI g) :
    tp_W (A ++ B) (upd wf g (wf g - 1)) := by
  intro f hf
  have h1 := h f hf
  rw [List.map_append, List.map_cons, List.countP_append, List.countP_cons] at h1
  rw [List.map_append, List.countP_append]
  by_cases hfg : f = g
  · subst hfg
    rw [pk_us, h1, if_pos (show tp_fst f e.1 = true by simp [tp_fst, he]), ← Nat.add_assoc, nI_pred]
  · rw [pk_un hfg, h1, if_neg (show ¬ tp_fst f e.1 = true by
      simp only [tp_fst, he, decide_eq_true_eq]
      rw [nI_eq (by omega) (by omega)]
      omega), Nat.add_zero]
theorem tp_W_add {A : List tp_E} {e : tp_E} {wf : Nat → Int32} (h : tp_W A wf) {g : Nat} (hg : g < 16) (he : e.1 / 16 = nI g) :
    tp_W (A ++ [e]) (upd wf g (wf g + 1)) := by
  intro f hf
  have h1 := h f hf
  rw [List.map_append, List.map_cons, List.map_nil, List.countP_append, List.countP_cons, List.countP_nil, Nat.zero_add]
  by_cases hfg : f = g
  · subst hfg
    rw [pk_us, h1, if_pos (show tp_fst f e.1 = true by simp [tp_fst, he]), nI_1]
  · rw [pk_un hfg, h1, if_neg (show ¬ tp_fst f e.1 = true by
      simp only [tp_fst, he, decide_eq_true_eq]
      rw [nI_eq (by omega) (by omega)]
      omega), Nat.add_zero]
theorem tp_W_cg {L L' : List tp_E} {wf : Nat → Int32} (h : tp_W L wf) (e : L'.map (fun e => e.1) = L.map (fun e => e.1)) : tp_W L' wf := by
  intro f hf
  rw [e]
  exact h f hf
theorem tp_d16 {e : tp_E} (h : tp_ok e) : ∃ g : Nat, g < 16 ∧ e.1 / 16 = nI g := by
  obtain ⟨⟨t, ht, h1⟩, _⟩ := h
  refine ⟨t / 16, by omega, ?_⟩
  rw [h1, tp_16, pk_div (by omega) (by omega) (by omega)]
theorem tp_okL {A B : List tp_E} {e : tp_E} (h : ∀ x, x ∈ A ++ e :: B → tp_ok x) : tp_ok e := h e (by simp)
theorem tp_okR {A B : List tp_E} {e : tp_E} (h : ∀ x, x ∈ A ++ e :: B → tp_ok x) : ∀ x, x ∈ A ++ B → tp_ok x := by
  intro x hx
  apply h
  rw [List.mem_append] at hx ⊢
  rcases hx with hx | hx
  · exact Or.inl hx
  · exact Or.inr (List.mem_cons_of_mem _ hx)
theorem tp_okS {A B : List tp_E} {e e' : tp_E} (h : ∀ x, x ∈ A ++ e :: B → tp_ok x) (h' : tp_ok e') : ∀ x, x ∈ A ++ e' :: B → tp_ok x := by
  intro x hx
  rw [List.mem_append, List.mem_cons] at hx
  rcases hx with hx | hx | hx
  · exact h x (by rw [List.mem_append]; exact Or.inl hx)
  · rw [hx]; exact h'
  · exact h x (by rw [List.mem_append]; exact Or.inr (List.mem_cons_of_mem _ hx))
