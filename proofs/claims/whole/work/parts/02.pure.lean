/-! paths of keys and their order -/
def qq_bf : List Nat → List Nat → Bool
  | [], [] => false
  | [], _ :: _ => true
  | _ :: _, [] => false
  | x :: xs, y :: ys => decide (y < x) || (decide (x = y) && qq_bf xs ys)
theorem qq_bf_irr : ∀ a : List Nat, qq_bf a a = false := by
  intro a
  induction a with
  | nil => rfl
  | cons x xs ih => simp [qq_bf, ih]
theorem qq_bf_cons {x y : Nat} {xs ys : List Nat} : qq_bf (x :: xs) (y :: ys) = true ↔ (y < x ∨ (x = y ∧ qq_bf xs ys = true)) := by
  simp [qq_bf]
theorem qq_bf_tr : ∀ a b c : List Nat, qq_bf a b = true → qq_bf b c = true → qq_bf a c = true := by
  intro a
  induction a with
  | nil =>
    intro b c h1 h2
    cases c with
    | nil => cases b <;> cases h2
    | cons z zs => rfl
  | cons x xs ih =>
    intro b c h1 h2
    cases b with
    | nil => cases h1
    | cons y ys =>
      cases c with
      | nil => cases h2
      | cons z zs =>
        rw [qq_bf_cons] at h1 h2 ⊢
        rcases h1 with h1 | ⟨h1, h1'⟩
        · rcases h2 with h2 | ⟨h2, h2'⟩
          · exact Or.inl (by omega)
          · exact Or.inl (by omega)
        · rcases h2 with h2 | ⟨h2, h2'⟩
          · exact Or.inl (by omega)
          · exact Or.inr ⟨by omega, ih ys zs h1' h2'⟩
theorem qq_bf_as {a b : List Nat} (h : qq_bf a b = true) : qq_bf b a = false := by
  cases h2 : qq_bf b a with
  | false => rfl
  | true =>
    have h3 := qq_bf_tr a b a h h2
    rw [qq_bf_irr] at h3
    cases h3
theorem qq_bf_ap : ∀ (a : List Nat) (y : Nat) (z : List Nat), qq_bf a (a ++ y :: z) = true := by
  intro a y z
  induction a with
  | nil => rfl
  | cons x xs ih =>
    rw [List.cons_append, qq_bf_cons]
    exact Or.inr ⟨rfl, ih⟩
theorem qq_bf_ext (k : Nat) : ∀ (r n : List Nat), qq_bf r n = true → (∀ y, y ∈ n → y < k) → qq_bf (r ++ [k]) n = true := by
  intro r
  induction r with
  | nil =>
    intro n h hn
    cases n with
    | nil => cases h
    | cons y ys =>
      rw [List.nil_append, qq_bf_cons]
      exact Or.inl (hn y List.mem_cons_self)
  | cons x xs ih =>
    intro n h hn
    cases n with
    | nil => cases h
    | cons y ys =>
      rw [qq_bf_cons] at h
      rw [List.cons_append, qq_bf_cons]
      rcases h with h | ⟨h, h'⟩
      · exact Or.inl h
      · exact Or.inr ⟨h, ih ys h' (fun z hz => hn z (List.mem_cons_of_mem _ hz))⟩
theorem qq_bf_pre : ∀ (g a b : List Nat), qq_bf (g ++ a) (g ++ b) = qq_bf a b := by
  intro g a b
  induction g with
  | nil => rfl
  | cons x xs ih => simp [qq_bf, ih]
theorem qq_bf_ne {g a b : List Nat} {x y : Nat} (h : x ≠ y) : qq_bf (g ++ x :: a) (g ++ y :: b) = decide (y < x) := by
  rw [qq_bf_pre]
  simp [qq_bf, h]
theorem qq_bf_px {a b : List Nat} (h : a <+: b) (hn : a ≠ b) : qq_bf a b = true := by
  obtain ⟨c, rfl⟩ := h
  cases c with
  | nil => exact absurd (List.append_nil a).symm hn
  | cons y z => exact qq_bf_ap a y z
theorem qq_split : ∀ X Y : List Nat, X <+: Y ∨ Y <+: X ∨ ∃ g x y a b, X = g ++ x :: a ∧ Y = g ++ y :: b ∧ x ≠ y := by
  intro X
  induction X with
  | nil => intro Y; exact Or.inl (List.nil_prefix)
  | cons x xs ih =>
    intro Y
    cases Y with
    | nil => exact Or.inr (Or.inl (List.nil_prefix))
    | cons y ys =>
      by_cases h : x = y
      · subst h
        rcases ih ys with h | h | ⟨g, u, v, a, b, h1, h2, h3⟩
        · exact Or.inl ((List.prefix_cons_inj x).mpr h)
        · exact Or.inr (Or.inl ((List.prefix_cons_inj x).mpr h))
        · exact Or.inr (Or.inr ⟨x :: g, u, v, a, b, by rw [h1]; rfl, by rw [h2]; rfl, h3⟩)
      · exact Or.inr (Or.inr ⟨[], x, y, xs, ys, rfl, rfl, h⟩)
/-! the list of all elements: cuts and counts -/
theorem qq_cut (s : Nat → Bool) : ∀ (A A' : List Nat) (e e' : Nat) (B B' : List Nat), A ++ e :: B = A' ++ e' :: B' → s e = true → s e' = true → A.countP s = A'.countP s → A = A' ∧ e = e' ∧ B = B' := by
  intro A
  induction A with
  | nil =>
    intro A' e e' B B' h he he' hc
    cases A' with
    | nil => simp at h; exact ⟨rfl, h.1, h.2⟩
    | cons a as =>
      simp at h
      rw [← h.1] at hc
      simp [he] at hc
  | cons a as ih =>
    intro A' e e' B B' h he he' hc
    cases A' with
    | nil =>
      simp at h
      rw [h.1] at hc
      simp [he'] at hc
    | cons a' as' =>
      simp only [List.cons_append, List.cons.injEq] at h
      obtain ⟨h1, h2⟩ := h
      subst h1
      rw [List.countP_cons, List.countP_cons] at hc
      obtain ⟨r1, r2, r3⟩ := ih as' e e' B B' h2 he he' (by omega)
      exact ⟨by rw [r1], r2, r3⟩
theorem qq_ex (s : Nat → Bool) : ∀ (L : List Nat) (j : Nat), j < L.countP s → ∃ A e B, L = A ++ e :: B ∧ s e = true ∧ A.countP s = j := by
  intro L
  induction L with
  | nil => intro j h; simp at h
  | cons a as ih =>
    intro j h
    cases hs : s a with
    | false =>
      rw [List.countP_cons_of_neg (by simp [hs])] at h
      obtain ⟨A, e, B, h1, h2, h3⟩ := ih j h
      exact ⟨a :: A, e, B, by rw [h1]; rfl, h2, by rw [List.countP_cons_of_neg (by simp [hs])]; exact h3⟩
    | true =>
      rw [List.countP_cons_of_pos hs] at h
      cases j with
      | zero => exact ⟨[], a, as, rfl, hs, rfl⟩
      | succ j =>
        obtain ⟨A, e, B, h1, h2, h3⟩ := ih j (by omega)
        exact ⟨a :: A, e, B, by rw [h1]; rfl, h2, by rw [List.countP_cons_of_pos hs, h3]⟩
theorem qq_lt {s : Nat → Bool} {L A B : List Nat} {e : Nat} (h : L = A ++ e :: B) (he : s e = true) : A.countP s < L.countP s := by
  rw [h, List.countP_append, List.countP_cons_of_pos he]
  omega
/-- what the list o holds from i on -/
def qq_at (o : Nat → Int32) : Nat → List Nat → Prop
  | _, [] => True
  | i, e :: r => (o i = nI e ∧ e < 30) ∧ qq_at o (i + 1) r
theorem qq_at_app (o : Nat → Int32) : ∀ (A B : List Nat) (i : Nat), qq_at o i (A ++ B) ↔ (qq_at o i A ∧ qq_at o (i + A.length) B) := by
  intro A
  induction A with
  | nil => intro B i; simp [qq_at]
  | cons a as ih =>
    intro B i
    rw [List.cons_append]
    simp only [qq_at, List.length_cons]
    rw [ih B (i + 1), show i + 1 + as.length = i + (as.length + 1) by omega]
    exact and_assoc.symm
theorem qq_at_mv (o o' : Nat → Int32) (d : Nat) : ∀ (A : List Nat) (i : Nat), (∀ j, i ≤ j → j < i + A.length → o' (j + d) = o j) → qq_at o i A → qq_at o' (i + d) A := by
  intro A
  induction A with
  | nil => intro i h k; trivial
  | cons a as ih =>
    intro i h k
    refine ⟨⟨?_, k.1.2⟩, ?_⟩
    · rw [h i (by omega) (by simp)]
      exact k.1.1
    · have h2 := ih (i + 1) (fun j h1 h2 => h j (by omega) (by simp; omega)) k.2
      rw [show i + d + 1 = i + 1 + d by omega]
      exact h2
theorem qq_at_mid {o : Nat → Int32} {A B : List Nat} {e : Nat} (h : qq_at o 0 (A ++ e :: B)) : o A.length = nI e ∧ e < 30 := by
  have h2 := ((qq_at_app o A (e :: B) 0).mp h).2
  rw [Nat.zero_add] at h2
  exact h2.1
def qq_ix (s : Nat → Bool) (p : Int32) : List Nat → Nat → Nat → Int32
  | [], _, _ => -1
  | e :: r, c, i => if s e = true then (if nI c = p then nI i else qq_ix s p r (c + 1) (i + 1)) else qq_ix s p r c (i + 1)
def qq_pl (s : Nat → Bool) (p : Int32) : List Nat → Nat → Int32
  | [], _ => -1
  | e :: r, c => if s e = true then (if nI e = p then nI c else qq_pl s p r (c + 1)) else qq_pl s p r c
theorem qq_ix_f (s : Nat → Bool) (p : Int32) (e : Nat) (B : List Nat) (he : s e = true) : ∀ (A : List Nat) (c i : Nat), c + A.length < 100 → nI (c + A.countP s) = p → qq_ix s p (A ++ e :: B) c i = nI (i + A.length) := by
  intro A
  induction A with
  | nil =>
    intro c i hl h
    simp at h
    simp [qq_ix, he, h]
  | cons a as ih =>
    intro c i hl h
    rw [List.length_cons] at hl
    rw [List.cons_append]
    have hc := List.countP_le_length (p := s) (l := as)
    cases ha : s a with
    | false =>
      rw [List.countP_cons_of_neg (by simp [ha])] at h
      simp only [qq_ix, ha, Bool.false_eq_true, if_false]
      rw [ih c (i + 1) (by omega) h, List.length_cons]
      exact congrArg nI (by omega)
    | true =>
      rw [List.countP_cons_of_pos ha] at h
      have hn : ¬ nI c = p := by
        rw [← h, nI_eq (by omega) (by omega)]
        omega
      simp only [qq_ix, ha, if_true, if_neg hn]
      rw [ih (c + 1) (i + 1) (by omega) (by rw [← h]; exact congrArg nI (by omega)), List.length_cons]
      exact congrArg nI (by omega)
theorem qq_ix_n (s : Nat → Bool) (p : Int32) : ∀ (L : List Nat) (c i : Nat), (∀ A e B, L = A ++ e :: B → s e = true → ¬ nI (c + A.countP s) = p) → qq_ix s p L c i = -1 := by
  intro L
  induction L with
  | nil => intro c i h; rfl
  | cons a as ih =>
    intro c i h
    cases ha : s a with
    | false =>
      simp only [qq_ix, ha, Bool.false_eq_true, if_false]
      refine ih c (i + 1) (fun A e B h1 h2 => ?_)
      have h3 := h (a :: A) e B (by rw [h1]; rfl) h2
      rw [List.countP_cons_of_neg (by simp [ha])] at h3
      exact h3
    | true =>
      have h0 := h [] a as rfl ha
      simp at h0
      simp only [qq_ix, ha, if_true, if_neg h0]
      refine ih (c + 1) (i + 1) (fun A e B h1 h2 => ?_)
      have h3 := h (a :: A) e B (by rw [h1]; rfl) h2
      rw [List.countP_cons_of_pos ha] at h3
      rw [show c + 1 + A.countP s = c + (A.countP s + 1) by omega]
      exact h3
theorem qq_pl_f (s : Nat → Bool) (e : Nat) (B : List Nat) (he : s e = true) (hb : e < 30) : ∀ (A : List Nat) (c : Nat), (∀ a, a ∈ A → a ≠ e ∧ a < 30) → qq_pl s (nI e) (A ++ e :: B) c = nI (c + A.countP s) := by
  intro A
  induction A with
  | nil =>
    intro c h
    simp [qq_pl, he]
  | cons a as ih =>
    intro c h
    rw [List.cons_append]
    have h0 := h a List.mem_cons_self
    have ih' := fun c => ih c (fun b hb => h b (List.mem_cons_of_mem _ hb))
    cases ha : s a with
    | false =>
      simp only [qq_pl, ha, Bool.false_eq_true, if_false]
      rw [ih' c, List.countP_cons_of_neg (by simp [ha])]
    | true =>
      have hn : ¬ nI a = nI e := by
        rw [nI_eq (by omega) (by omega)]
        exact h0.1
      simp only [qq_pl, ha, if_true, if_neg hn]
      rw [ih' (c + 1), List.countP_cons_of_pos ha]
      exact congrArg nI (by omega)
theorem qq_pl_n (s : Nat → Bool) (p : Int32) : ∀ (L : List Nat) (c : Nat), (∀ e, e ∈ L → s e = true → ¬ nI e = p) → qq_pl s p L c = -1 := by
  intro L
  induction L with
  | nil => intro c h; rfl
  | cons a as ih =>
    intro c h
    have ih' := fun c => ih c (fun b hb => h b (List.mem_cons_of_mem _ hb))
    cases ha : s a with
    | false =>
      simp only [qq_pl, ha, Bool.false_eq_true, if_false]
      exact ih' c
    | true =>
      simp only [qq_pl, ha, if_true, if_neg (h a List.mem_cons_self ha)]
      exact ih' (c + 1)
/-- over the elements of range m, counted along L -/
theorem qq_perm {L : List Nat} {m : Nat} {el : Nat → Bool} (h : L.Perm ((List.range m).filter el)) (s : Nat → Bool) : (List.range m).countP (fun e => el e && s e) = L.countP s := by
  rw [h.countP_eq, List.countP_filter]
  congr 1
  funext e
  exact Bool.and_comm _ _
theorem qq_mem {L : List Nat} {m : Nat} {el : Nat → Bool} (h : L.Perm ((List.range m).filter el)) {e : Nat} : e ∈ L ↔ (e < m ∧ el e = true) := by
  rw [h.mem_iff, List.mem_filter, List.mem_range]
theorem qq_len {L : List Nat} {m : Nat} {el : Nat → Bool} (h : L.Perm ((List.range m).filter el)) : L.length ≤ m := by
  rw [h.length_eq]
  have h2 := List.length_filter_le el (List.range m)
  rw [List.length_range] at h2
  exact h2
/-- rank: how many shown ones stand before e -/
theorem qq_rank {P : Nat → List Nat} {A B : List Nat} {e : Nat} (s : Nat → Bool) (h : (A ++ e :: B).Pairwise (fun a b => qq_bf (P a) (P b) = true)) : (A ++ e :: B).countP (fun f => s f && qq_bf (P f) (P e)) = A.countP s := by
  rw [List.pairwise_append] at h
  obtain ⟨h1, h2, h3⟩ := h
  rw [List.pairwise_cons] at h2
  rw [List.countP_append, List.countP_cons_of_neg (by simp [qq_bf_irr])]
  have e1 : A.countP (fun f => s f && qq_bf (P f) (P e)) = A.countP s := by
    apply List.countP_congr
    intro f hf
    rw [h3 f hf e List.mem_cons_self, Bool.and_true]
  have e2 : B.countP (fun f => s f && qq_bf (P f) (P e)) = 0 := by
    rw [List.countP_eq_zero]
    intro f hf
    rw [qq_bf_as (h2.1 f hf), Bool.and_false]
    decide
  omega
