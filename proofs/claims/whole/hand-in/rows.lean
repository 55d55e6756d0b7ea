section
/-! rows of kit/rows, pasted -/
theorem pk_us {f : Nat → Int32} {k : Nat} {x : Int32} : upd f k x k = x := if_pos rfl
theorem pk_un {f : Nat → Int32} {k j : Nat} {x : Int32} (h : j ≠ k) : upd f k x j = f j := if_neg h
theorem pk_sub {a b : Nat} (h : b ≤ a) : nI a - nI b = nI (a - b) := by
  obtain ⟨c, rfl⟩ : ∃ c, a = c + b := ⟨a - b, by omega⟩
  rw [← nI_add, Int32.add_sub_cancel, Nat.add_sub_cancel]
theorem pk_m1 (n : Nat) : nI (n + 1) + (-1) = nI n := by
  rw [← nI_1, Int32.add_assoc, show (1 : Int32) + (-1) = 0 from rfl, Int32.add_zero]
theorem pk_ix (x : Int32) {n : Nat} (hn : n < 2 ^ 31) : x < 0 ∨ nI n ≤ x ∨ ∃ j : Nat, j < n ∧ x = nI j := by
  by_cases h : x < 0
  · exact Or.inl h
  · obtain ⟨j, hj, rfl⟩ := nI_of h
    by_cases h2 : j < n
    · exact Or.inr (Or.inr ⟨j, h2, rfl⟩)
    · exact Or.inr (Or.inl (nI_le (by omega) hj))
theorem pk_le {x y : Int32} {A B : Prop} (a b : Nat) (f : a ≤ b → A) (g : b < a → B) (hx : x = nI a := by rfl) (hy : y = nI b := by rfl) (ha : a < 2 ^ 31 := by omega) (hb : b < 2 ^ 31 := by omega) : (x ≤ y → A) ∧ (¬ x ≤ y → B) := by
  subst hx hy
  rw [nI_leI ha hb]
  exact ⟨f, fun z => g (by omega)⟩
theorem pk_lt {x y : Int32} {A B : Prop} (a b : Nat) (f : a < b → A) (g : b ≤ a → B) (hx : x = nI a := by rfl) (hy : y = nI b := by rfl) (ha : a < 2 ^ 31 := by omega) (hb : b < 2 ^ 31 := by omega) : (x < y → A) ∧ (¬ x < y → B) := by
  subst hx hy
  rw [nI_ltI ha hb]
  exact ⟨f, fun z => g (by omega)⟩
theorem pk_eq {x y : Int32} {A B : Prop} (a b : Nat) (f : a = b → A) (g : a ≠ b → B) (hx : x = nI a := by rfl) (hy : y = nI b := by rfl) (ha : a < 2 ^ 31 := by omega) (hb : b < 2 ^ 31 := by omega) : (x = y → A) ∧ (¬ x = y → B) := by
  subst hx hy
  rw [nI_eq ha hb]
  exact ⟨f, g⟩
theorem pk_in {x : Int32} (n N : Nat) (h : n < N) (hx : x = nI n := by rfl) (hN : N < 2 ^ 31 := by omega) : vp_in x N := by
  subst hx
  exact vp_in_nI h hN
theorem pk_cl {x : Int32} (n : Nat) (hx : x = nI n := by rfl) (h : n < 2 ^ 31 := by omega) : x.toNatClampNeg = n := by
  subst hx
  exact nI_clamp h
def bt (x : Int32) (i : Nat) : Bool := x.toBitVec.getLsbD i
theorem b_ext {x y : Int32} (h : ∀ i, i < 32 → bt x i = bt y i) : x = y := Int32.toBitVec_inj.mp (BitVec.eq_of_getLsbD_eq (fun i hi => h i hi))
theorem b_or (x y : Int32) (i : Nat) : bt (x ||| y) i = (bt x i || bt y i) := by unfold bt; rw [Int32.toBitVec_or, BitVec.getLsbD_or]
theorem b_and (x y : Int32) (i : Nat) : bt (x &&& y) i = (bt x i && bt y i) := by unfold bt; rw [Int32.toBitVec_and, BitVec.getLsbD_and]
theorem b_xor (x y : Int32) (i : Nat) : bt (x ^^^ y) i = (bt x i ^^ bt y i) := by unfold bt; rw [Int32.toBitVec_xor, BitVec.getLsbD_xor]
theorem b_big {x : Int32} {i : Nat} (h : 32 ≤ i) : bt x i = false := BitVec.getLsbD_of_ge _ _ h
theorem b_m1 : ∀ i, i < 32 → bt (-1) i = true := by decide +kernel
theorem b_0 (i : Nat) : bt 0 i = false := BitVec.getLsbD_zero
theorem s_l : ∀ n, n < 32 → ((nI n &&& 31).toBitVec.smod 32).toNat = n := by decide +kernel
theorem b_shl (n : Nat) (hn : n < 32) (x : Int32) {i : Nat} (hi : i < 32) : bt (x <<< (nI n &&& 31)) i = (decide (n ≤ i) && bt x (i - n)) := by
  unfold bt
  rw [Int32.toBitVec_shiftLeft]
  show (x.toBitVec <<< ((nI n &&& 31).toBitVec.smod 32).toNat).getLsbD i = _
  rw [s_l n hn, BitVec.getLsbD_shiftLeft]
  rcases Nat.lt_or_ge i n with h | h
  · simp [h, Nat.not_le.mpr h]
  · simp [hi, h, Nat.not_lt.mpr h]
theorem b_sshr (n : Nat) (hn : n < 32) (x : Int32) {i : Nat} (hi : i < 32) : bt (x >>> (nI n &&& 31)) i = if n + i < 32 then bt x (n + i) else bt x 31 := by
  unfold bt
  rw [Int32.toBitVec_shiftRight]
  show (x.toBitVec.sshiftRight ((nI n &&& 31).toBitVec.smod 32).toNat).getLsbD i = _
  rw [s_l n hn, BitVec.getLsbD_sshiftRight, BitVec.msb_eq_getLsbD_last]
  simp [hi]
/-! own rows on bits -/
theorem qq_b1 : ∀ i, i < 32 → bt 1 i = decide (i = 0) := by decide +kernel
theorem qq_s1 {e i : Nat} (he : e < 32) (hi : i < 32) : bt ((1 : Int32) <<< (nI e &&& 31)) i = decide (i = e) := by
  rw [b_shl e he 1 hi, qq_b1 (i - e) (by omega)]
  by_cases h : i = e
  · subst h; simp
  · by_cases h2 : e ≤ i
    · have h3 : ¬ i - e = 0 := by omega
      simp [h, h3]
    · simp [h, h2]
theorem qq_or {k : Int32} {e i : Nat} (he : e < 32) (hi : i < 32) : bt (k ||| ((1 : Int32) <<< (nI e &&& 31))) i = (bt k i || decide (i = e)) := by
  rw [b_or, qq_s1 he hi]
theorem qq_x {k : Int32} {e : Nat} (he : e < 32) : (k &&& ((1 : Int32) <<< (nI e &&& 31))) = 0 ↔ bt k e = false := by
  constructor
  · intro h
    have h2 : bt (k &&& ((1 : Int32) <<< (nI e &&& 31))) e = bt 0 e := by rw [h]
    rw [b_and, qq_s1 he he, b_0] at h2
    simpa using h2
  · intro h
    apply b_ext
    intro i hi
    rw [b_and, qq_s1 he hi, b_0]
    by_cases h3 : i = e
    · subst h3; simp [h]
    · simp [h3]
theorem qq_y {k : Int32} {e : Nat} (he : e < 32) : ((k >>> (nI e &&& 31)) &&& 1) = 1 ↔ bt k e = true := by
  constructor
  · intro h
    have h2 : bt ((k >>> (nI e &&& 31)) &&& 1) 0 = bt 1 0 := by rw [h]
    rw [b_and, b_sshr e he k (by decide), if_pos (by omega), qq_b1 0 (by decide)] at h2
    simpa using h2
  · intro h
    apply b_ext
    intro i hi
    rw [b_and, b_sshr e he k hi, qq_b1 i hi]
    by_cases h3 : i = 0
    · subst h3
      rw [if_pos (by omega)]
      simp [h]
    · simp [h3]
theorem qq_and0 {a b : Int32} : (a &&& b) = 0 ↔ ∀ i, i < 32 → bt a i = true → bt b i = true → False := by
  constructor
  · intro h i hi ha hb
    have h2 : bt (a &&& b) i = bt 0 i := by rw [h]
    rw [b_and, b_0, ha, hb] at h2
    cases h2
  · intro h
    apply b_ext
    intro i hi
    rw [b_and, b_0]
    cases ha : bt a i
    · rfl
    · cases hb : bt b i
      · rfl
      · exact (h i hi ha hb).elim
end
section
/-! paths of keys and their order -/
def qq_bf : List Nat → List Nat → Bool
  | [], [] => false
  | [], _ :: _ => true
  | _ :: _, [] => false
  | x :: xs, y :: ys => decide (y < x) || (decide (x = y) && qq_bf xs ys)
theorem qq_bf_irr : ∀ a : List Nat, qq_bf a a = false := by
  intro a
  induction a with
  | nil => rfl
  | cons x xs ih => simp [qq_bf, ih]
theorem qq_bf_cons {x y : Nat} {xs ys : List Nat} : qq_bf (x :: xs) (y :: ys) = true ↔ (y < x ∨ (x = y ∧ qq_bf xs ys = true)) := by
  simp [qq_bf]
theorem qq_bf_tr : ∀ a b c : List Nat, qq_bf a b = true → qq_bf b c = true → qq_bf a c = true := by
  intro a
  induction a with
  | nil =>
    intro b c h1 h2
    cases c with
    | nil => cases b <;> cases h2
    | cons z zs => rfl
  | cons x xs ih =>
    intro b c h1 h2
    cases b with
    | nil => cases h1
    | cons y ys =>
      cases c with
      | nil => cases h2
      | cons z zs =>
        rw [qq_bf_cons] at h1 h2 ⊢
        rcases h1 with h1 | ⟨h1, h1'⟩
        · rcases h2 with h2 | ⟨h2, h2'⟩
          · exact Or.inl (by omega)
          · exact Or.inl (by omega)
        · rcases h2 with h2 | ⟨h2, h2'⟩
          · exact Or.inl (by omega)
          · exact Or.inr ⟨by omega, ih ys zs h1' h2'⟩
theorem qq_bf_as {a b : List Nat} (h : qq_bf a b = true) : qq_bf b a = false := by
  cases h2 : qq_bf b a with
  | false => rfl
  | true =>
    have h3 := qq_bf_tr a b a h h2
    rw [qq_bf_irr] at h3
    cases h3
theorem qq_bf_ap : ∀ (a : List Nat) (y : Nat) (z : List Nat), qq_bf a (a ++ y :: z) = true := by
  intro a y z
  induction a with
  | nil => rfl
  | cons x xs ih =>
    rw [List.cons_append, qq_bf_cons]
    exact Or.inr ⟨rfl, ih⟩
theorem qq_bf_ext (k : Nat) : ∀ (r n : List Nat), qq_bf r n = true → (∀ y, y ∈ n → y < k) → qq_bf (r ++ [k]) n = true := by
  intro r
  induction r with
  | nil =>
    intro n h hn
    cases n with
    | nil => cases h
    | cons y ys =>
      rw [List.nil_append, qq_bf_cons]
      exact Or.inl (hn y List.mem_cons_self)
  | cons x xs ih =>
    intro n h hn
    cases n with
    | nil => cases h
    | cons y ys =>
      rw [qq_bf_cons] at h
      rw [List.cons_append, qq_bf_cons]
      rcases h with h | ⟨h, h'⟩
      · exact Or.inl h
      · exact Or.inr ⟨h, ih ys h' (fun z hz => hn z (List.mem_cons_of_mem _ hz))⟩
theorem qq_bf_pre : ∀ (g a b : List Nat), qq_bf (g ++ a) (g ++ b) = qq_bf a b := by
  intro g a b
  induction g with
  | nil => rfl
  | cons x xs ih => simp [qq_bf, ih]
theorem qq_bf_ne {g a b : List Nat} {x y : Nat} (h : x ≠ y) : qq_bf (g ++ x :: a) (g ++ y :: b) = decide (y < x) := by
  rw [qq_bf_pre]
  simp [qq_bf, h]
theorem qq_bf_px {a b : List Nat} (h : a <+: b) (hn : a ≠ b) : qq_bf a b = true := by
  obtain ⟨c, rfl⟩ := h
  cases c with
  | nil => exact absurd (List.append_nil a).symm hn
  | cons y z => exact qq_bf_ap a y z
theorem qq_split : ∀ X Y : List Nat, X <+: Y ∨ Y <+: X ∨ ∃ g x y a b, X = g ++ x :: a ∧ Y = g ++ y :: b ∧ x ≠ y := by
  intro X
  induction X with
  | nil => intro Y; exact Or.inl (List.nil_prefix)
  | cons x xs ih =>
    intro Y
    cases Y with
    | nil => exact Or.inr (Or.inl (List.nil_prefix))
    | cons y ys =>
      by_cases h : x = y
      · subst h
        rcases ih ys with h | h | ⟨g, u, v, a, b, h1, h2, h3⟩
        · exact Or.inl ((List.prefix_cons_inj x).mpr h)
        · exact Or.inr (Or.inl ((List.prefix_cons_inj x).mpr h))
        · exact Or.inr (Or.inr ⟨x :: g, u, v, a, b, by rw [h1]; rfl, by rw [h2]; rfl, h3⟩)
      · exact Or.inr (Or.inr ⟨[], x, y, xs, ys, rfl, rfl, h⟩)
/-! the list of all elements: cuts and counts -/
theorem qq_cut (s : Nat → Bool) : ∀ (A A' : List Nat) (e e' : Nat) (B B' : List Nat), A ++ e :: B = A' ++ e' :: B' → s e = true → s e' = true → A.countP s = A'.countP s → A = A' ∧ e = e' ∧ B = B' := by
  intro A
  induction A with
  | nil =>
    intro A' e e' B B' h he he' hc
    cases A' with
    | nil => simp at h; exact ⟨rfl, h.1, h.2⟩
    | cons a as =>
      simp at h
      rw [← h.1] at hc
      simp [he] at hc
  | cons a as ih =>
    intro A' e e' B B' h he he' hc
    cases A' with
    | nil =>
      simp at h
      rw [h.1] at hc
      simp [he'] at hc
    | cons a' as' =>
      simp only [List.cons_append, List.cons.injEq] at h
      obtain ⟨h1, h2⟩ := h
      subst h1
      rw [List.countP_cons, List.countP_cons] at hc
      obtain ⟨r1, r2, r3⟩ := ih as' e e' B B' h2 he he' (by omega)
      exact ⟨by rw [r1], r2, r3⟩
theorem qq_ex (s : Nat → Bool) : ∀ (L : List Nat) (j : Nat), j < L.countP s → ∃ A e B, L = A ++ e :: B ∧ s e = true ∧ A.countP s = j := by
  intro L
  induction L with
  | nil => intro j h; simp at h
  | cons a as ih =>
    intro j h
    cases hs : s a with
    | false =>
      rw [List.countP_cons_of_neg (by simp [hs])] at h
      obtain ⟨A, e, B, h1, h2, h3⟩ := ih j h
      exact ⟨a :: A, e, B, by rw [h1]; rfl, h2, by rw [List.countP_cons_of_neg (by simp [hs])]; exact h3⟩
    | true =>
      rw [List.countP_cons_of_pos hs] at h
      cases j with
      | zero => exact ⟨[], a, as, rfl, hs, rfl⟩
      | succ j =>
        obtain ⟨A, e, B, h1, h2, h3⟩ := ih j (by omega)
        exact ⟨a :: A, e, B, by rw [h1]; rfl, h2, by rw [List.countP_cons_of_pos hs, h3]⟩
theorem qq_lt {s : Nat → Bool} {L A B : List Nat} {e : Nat} (h : L = A ++ e :: B) (he : s e = true) : A.countP s < L.countP s := by
  rw [h, List.countP_append, List.countP_cons_of_pos he]
  omega
/-- what the list o holds from i on -/
def qq_at (o : Nat → Int32) : Nat → List Nat → Prop
  | _, [] => True
  | i, e :: r => (o i = nI e ∧ e < 30) ∧ qq_at o (i + 1) r
theorem qq_at_app (o : Nat → Int32) : ∀ (A B : List Nat) (i : Nat), qq_at o i (A ++ B) ↔ (qq_at o i A ∧ qq_at o (i + A.length) B) := by
  intro A
  induction A with
  | nil => intro B i; simp [qq_at]
  | cons a as ih =>
    intro B i
    rw [List.cons_append]
    simp only [qq_at, List.length_cons]
    rw [ih B (i + 1), show i + 1 + as.length = i + (as.length + 1) by omega]
    exact and_assoc.symm
theorem qq_at_mv (o o' : Nat → Int32) (d : Nat) : ∀ (A : List Nat) (i : Nat), (∀ j, i ≤ j → j < i + A.length → o' (j + d) = o j) → qq_at o i A → qq_at o' (i + d) A := by
  intro A
  induction A with
  | nil => intro i h k; trivial
  | cons a as ih =>
    intro i h k
    refine ⟨⟨?_, k.1.2⟩, ?_⟩
    · rw [h i (by omega) (by simp)]
      exact k.1.1
    · have h2 := ih (i + 1) (fun j h1 h2 => h j (by omega) (by simp; omega)) k.2
      rw [show i + d + 1 = i + 1 + d by omega]
      exact h2
theorem qq_at_mid {o : Nat → Int32} {A B : List Nat} {e : Nat} (h : qq_at o 0 (A ++ e :: B)) : o A.length = nI e ∧ e < 30 := by
  have h2 := ((qq_at_app o A (e :: B) 0).mp h).2
  rw [Nat.zero_add] at h2
  exact h2.1
def qq_ix (s : Nat → Bool) (p : Int32) : List Nat → Nat → Nat → Int32
  | [], _, _ => -1
  | e :: r, c, i => if s e = true then (if nI c = p then nI i else qq_ix s p r (c + 1) (i + 1)) else qq_ix s p r c (i + 1)
def qq_pl (s : Nat → Bool) (p : Int32) : List Nat → Nat → Int32
  | [], _ => -1
  | e :: r, c => if s e = true then (if nI e = p then nI c else qq_pl s p r (c + 1)) else qq_pl s p r c
theorem qq_ix_f (s : Nat → Bool) (p : Int32) (e : Nat) (B : List Nat) (he : s e = true) : ∀ (A : List Nat) (c i : Nat), c + A.length < 100 → nI (c + A.countP s) = p → qq_ix s p (A ++ e :: B) c i = nI (i + A.length) := by
  intro A
  induction A with
  | nil =>
    intro c i hl h
    simp at h
    simp [qq_ix, he, h]
  | cons a as ih =>
    intro c i hl h
    rw [List.length_cons] at hl
    rw [List.cons_append]
    have hc := List.countP_le_length (p := s) (l := as)
    cases ha : s a with
    | false =>
      rw [List.countP_cons_of_neg (by simp [ha])] at h
      simp only [qq_ix, ha, Bool.false_eq_true, if_false]
      rw [ih c (i + 1) (by omega) h, List.length_cons]
      exact congrArg nI (by omega)
    | true =>
      rw [List.countP_cons_of_pos ha] at h
      have hn : ¬ nI c = p := by
        rw [← h, nI_eq (by omega) (by omega)]
        omega
      simp only [qq_ix, ha, if_true, if_neg hn]
      rw [ih (c + 1) (i + 1) (by omega) (by rw [← h]; exact congrArg nI (by omega)), List.length_cons]
      exact congrArg nI (by omega)
theorem qq_ix_n (s : Nat → Bool) (p : Int32) : ∀ (L : List Nat) (c i : Nat), (∀ A e B, L = A ++ e :: B → s e = true → ¬ nI (c + A.countP s) = p) → qq_ix s p L c i = -1 := by
  intro L
  induction L with
  | nil => intro c i h; rfl
  | cons a as ih =>
    intro c i h
    cases ha : s a with
    | false =>
      simp only [qq_ix, ha, Bool.false_eq_true, if_false]
      refine ih c (i + 1) (fun A e B h1 h2 => ?_)
      have h3 := h (a :: A) e B (by rw [h1]; rfl) h2
      rw [List.countP_cons_of_neg (by simp [ha])] at h3
      exact h3
    | true =>
      have h0 := h [] a as rfl ha
      simp at h0
      simp only [qq_ix, ha, if_true, if_neg h0]
      refine ih (c + 1) (i + 1) (fun A e B h1 h2 => ?_)
      have h3 := h (a :: A) e B (by rw [h1]; rfl) h2
      rw [List.countP_cons_of_pos ha] at h3
      rw [show c + 1 + A.countP s = c + (A.countP s + 1) by omega]
      exact h3
theorem qq_pl_f (s : Nat → Bool) (e : Nat) (B : List Nat) (he : s e = true) (hb : e < 30) : ∀ (A : List Nat) (c : Nat), (∀ a, a ∈ A → a ≠ e ∧ a < 30) → qq_pl s (nI e) (A ++ e :: B) c = nI (c + A.countP s) := by
  intro A
  induction A with
  | nil =>
    intro c h
    simp [qq_pl, he]
  | cons a as ih =>
    intro c h
    rw [List.cons_append]
    have h0 := h a List.mem_cons_self
    have ih' := fun c => ih c (fun b hb => h b (List.mem_cons_of_mem _ hb))
    cases ha : s a with
    | false =>
      simp only [qq_pl, ha, Bool.false_eq_true, if_false]
      rw [ih' c, List.countP_cons_of_neg (by simp [ha])]
    | true =>
      have hn : ¬ nI a = nI e := by
        rw [nI_eq (by omega) (by omega)]
        exact h0.1
      simp only [qq_pl, ha, if_true, if_neg hn]
      rw [ih' (c + 1), List.countP_cons_of_pos ha]
      exact congrArg nI (by omega)
theorem qq_pl_n (s : Nat → Bool) (p : Int32) : ∀ (L : List Nat) (c : Nat), (∀ e, e ∈ L → s e = true → ¬ nI e = p) → qq_pl s p L c = -1 := by
  intro L
  induction L with
  | nil => intro c h; rfl
  | cons a as ih =>
    intro c h
    have ih' := fun c => ih c (fun b hb => h b (List.mem_cons_of_mem _ hb))
    cases ha : s a with
    | false =>
      simp only [qq_pl, ha, Bool.false_eq_true, if_false]
      exact ih' c
    | true =>
      simp only [qq_pl, ha, if_true, if_neg (h a List.mem_cons_self ha)]
      exact ih' (c + 1)
/-- over the elements of range m, counted along L -/
theorem qq_perm {L : List Nat} {m : Nat} {el : Nat → Bool} (h : L.Perm ((List.range m).filter el)) (s : Nat → Bool) : (List.range m).countP (fun e => el e && s e) = L.countP s := by
  rw [h.countP_eq, List.countP_filter]
  congr 1
  funext e
  exact Bool.and_comm _ _
theorem qq_mem {L : List Nat} {m : Nat} {el : Nat → Bool} (h : L.Perm ((List.range m).filter el)) {e : Nat} : e ∈ L ↔ (e < m ∧ el e = true) := by
  rw [h.mem_iff, List.mem_filter, List.mem_range]
theorem qq_len {L : List Nat} {m : Nat} {el : Nat → Bool} (h : L.Perm ((List.range m).filter el)) : L.length ≤ m := by
  rw [h.length_eq]
  have h2 := List.length_filter_le el (List.range m)
  rw [List.length_range] at h2
  exact h2
/-- rank: how many shown ones stand before e -/
theorem qq_rank {P : Nat → List Nat} {A B : List Nat} {e : Nat} (s : Nat → Bool) (h : (A ++ e :: B).Pairwise (fun a b => qq_bf (P a) (P b) = true)) : (A ++ e :: B).countP (fun f => s f && qq_bf (P f) (P e)) = A.countP s := by
  rw [List.pairwise_append] at h
  obtain ⟨h1, h2, h3⟩ := h
  rw [List.pairwise_cons] at h2
  rw [List.countP_append, List.countP_cons_of_neg (by simp [qq_bf_irr])]
  have e1 : A.countP (fun f => s f && qq_bf (P f) (P e)) = A.countP s := by
    apply List.countP_congr
    intro f hf
    rw [h3 f hf e List.mem_cons_self, Bool.and_true]
  have e2 : B.countP (fun f => s f && qq_bf (P f) (P e)) = 0 := by
    rw [List.countP_eq_zero]
    intro f hf
    rw [qq_bf_as (h2.1 f hf), Bool.and_false]
    decide
  omega
end
section
/-! the class's reading methods against pure pictures -/
def qq_b : Bool → Int32
  | true => 1
  | false => 0
def qq_sh (kn dl : Nat → Int32) (x e : Nat) : Bool := bt (kn x) e && decide (kn x &&& dl e = 0)
theorem xr_t {post : Int32 → Prop} {u : SX} {x : Nat} (hx : x < 3) (h : post 1) : wpX_isReplica post u (nI x) := by
  unfold wpX_isReplica
  exact br_f (nI_pos (by omega)) (br_f (nI_ge (b := 3) hx (by decide)) h)
theorem xr_f {post : Int32 → Prop} {u : SX} {x : Int32} (hx : x < 0 ∨ nI 3 ≤ x) (h : post 0) : wpX_isReplica post u x := by
  unfold wpX_isReplica
  by_cases h0 : x < 0
  · exact br_t h0 h
  · rcases hx with hx | hx
    · exact absurd hx h0
    · exact br_f h0 (br_t hx h)
section
variable {post : Int32 → Prop} {fm p : Int32} {N x : Nat} {kn cl nd sx tx mk dl od : Nat → Int32}
theorem xw_knows {fp : Int32} {e : Nat} (hx : x < 3) (he : e < 32) (h : post (qq_b (bt (kn x) e))) : wpX_knows post (fm, fp, kn, cl, nd, sx, tx, mk, dl, od) (nI x) (nI e) := by
  unfold wpX_knows
  dsimp only
  refine ⟨vp_in_nI hx (by decide), ?_⟩
  rw [nI_clamp (by omega)]
  cases hb : bt (kn x) e with
  | false =>
    rw [hb] at h
    exact br_t ((qq_x he).mpr hb) h
  | true =>
    rw [hb] at h
    exact br_f (fun z => by rw [(qq_x he).mp z] at hb; cases hb) h
theorem xw_shown {fp : Int32} {e : Nat} (hx : x < 3) (he : e < 30) (h : post (qq_b (qq_sh kn dl x e))) : wpX_isShown post (fm, fp, kn, cl, nd, sx, tx, mk, dl, od) (nI x) (nI e) := by
  unfold wpX_isShown
  dsimp only
  refine xw_knows hx (by omega) ?_
  unfold qq_sh at h
  cases hb : bt (kn x) e with
  | false =>
    rw [hb] at h
    exact br_t rfl h
  | true =>
    rw [hb] at h
    refine br_f (by decide) ⟨vp_in_nI hx (by decide), vp_in_nI he (by decide), ?_⟩
    rw [nI_clamp (by omega), nI_clamp (by omega)]
    by_cases hc : kn x &&& dl e = 0
    · rw [decide_eq_true hc] at h
      exact br_t hc h
    · rw [decide_eq_false hc] at h
      exact br_f hc h
theorem xw_ix5 (hx : x < 3) (hN : N ≤ 30) : ∀ (r : List Nat) (i c n : Nat), qq_at od i r → i + r.length = N → r.length < n → post (qq_ix (qq_sh kn dl x) p r c i) → wX_indexAt_5 post (nI x) p fm (nI N) kn cl nd sx tx mk dl od n (nI c) (nI i) := by
  intro r
  induction r with
  | nil =>
    intro i c n ho hi hn h
    cases n with
    | zero => cases hn
    | succ n => exact br_t (nI_le (by simp at hi; omega) (by simp at hi; omega)) h
  | cons e r ih =>
    intro i c n ho hi hn h
    rw [List.length_cons] at hi hn
    cases n with
    | zero => cases hn
    | succ n =>
      refine br_f (nI_ge (by omega) (by omega)) ⟨vp_in_nI (by omega) (by decide), ?_⟩
      rw [nI_clamp (by omega), ho.1.1]
      refine xw_shown hx ho.1.2 ?_
      unfold qq_ix at h
      cases hs : qq_sh kn dl x e with
      | false =>
        rw [hs] at h
        exact br_t rfl (nm_r (nI_1 i) (ih (i + 1) c n ho.2 (by omega) (by omega) h))
      | true =>
        rw [hs, if_pos rfl] at h
        refine br_f (by decide) ?_
        by_cases hc : nI c = p
        · rw [if_pos hc] at h
          exact br_t hc h
        · rw [if_neg hc] at h
          exact br_f hc (nm_r (nI_1 c) (nm_r (nI_1 i) (ih (i + 1) (c + 1) n ho.2 (by omega) (by omega) h)))
theorem xw_ix {L : List Nat} (hx : x < 3) (hN : L.length ≤ 30) (ho : qq_at od 0 L) (h : post (qq_ix (qq_sh kn dl x) p L 0 0)) : wpX_indexAt post (fm, nI L.length, kn, cl, nd, sx, tx, mk, dl, od) (nI x) p := by
  unfold wpX_indexAt
  exact ⟨L.length + 1, xw_ix5 hx hN L 0 0 _ ho (by omega) (by omega) h⟩
theorem xw_len14 (hx : x < 3) (hN : N ≤ 30) : ∀ (r : List Nat) (i c n : Nat), qq_at od i r → i + r.length = N → r.length < n → post (nI (c + r.countP (qq_sh kn dl x))) → wX_length_14 post (nI x) fm (nI N) kn cl nd sx tx mk dl od n (nI c) (nI i) := by
  intro r
  induction r with
  | nil =>
    intro i c n ho hi hn h
    cases n with
    | zero => cases hn
    | succ n => exact br_t (nI_le (by simp at hi; omega) (by simp at hi; omega)) h
  | cons e r ih =>
    intro i c n ho hi hn h
    rw [List.length_cons] at hi hn
    cases n with
    | zero => cases hn
    | succ n =>
      refine br_f (nI_ge (by omega) (by omega)) ⟨vp_in_nI (by omega) (by decide), ?_⟩
      rw [nI_clamp (by omega), ho.1.1]
      refine xw_shown hx ho.1.2 ?_
      cases hs : qq_sh kn dl x e with
      | false =>
        rw [List.countP_cons_of_neg (by simp [hs])] at h
        exact br_t rfl (nm_r (nI_1 i) (ih (i + 1) c n ho.2 (by omega) (by omega) h))
      | true =>
        rw [List.countP_cons_of_pos hs, show c + (r.countP (qq_sh kn dl x) + 1) = c + 1 + r.countP (qq_sh kn dl x) by omega] at h
        exact br_f (by decide) (nm_r (nI_1 c) (nm_r (nI_1 i) (ih (i + 1) (c + 1) n ho.2 (by omega) (by omega) h)))
theorem xw_len {L : List Nat} (hx : x < 3) (hN : L.length ≤ 30) (ho : qq_at od 0 L) (h : post (nI (L.countP (qq_sh kn dl x)))) : wpX_length post (fm, nI L.length, kn, cl, nd, sx, tx, mk, dl, od) (nI x) := by
  unfold wpX_length
  dsimp only
  exact xr_t hx (br_f (by decide) ⟨L.length + 1, xw_len14 hx hN L 0 0 _ ho (by omega) (by omega) (by rw [Nat.zero_add]; exact h)⟩)
theorem xw_el14 (hx : x < 3) (hN : N ≤ 30) : ∀ (r : List Nat) (i c n : Nat), qq_at od i r → i + r.length = N → r.length < n → post (nI (c + r.countP (fun e => bt (kn x) e))) → wX_elements_14 post (nI x) fm (nI N) kn cl nd sx tx mk dl od n (nI c) (nI i) := by
  intro r
  induction r with
  | nil =>
    intro i c n ho hi hn h
    cases n with
    | zero => cases hn
    | succ n => exact br_t (nI_le (by simp at hi; omega) (by simp at hi; omega)) h
  | cons e r ih =>
    intro i c n ho hi hn h
    rw [List.length_cons] at hi hn
    have he := ho.1.2
    cases n with
    | zero => cases hn
    | succ n =>
      refine br_f (nI_ge (by omega) (by omega)) ⟨vp_in_nI (by omega) (by decide), ?_⟩
      rw [nI_clamp (by omega), ho.1.1]
      refine xw_knows hx (by omega) ?_
      cases hs : bt (kn x) e with
      | false =>
        rw [List.countP_cons_of_neg (by simp [hs])] at h
        exact br_t rfl (nm_r (nI_1 i) (ih (i + 1) c n ho.2 (by omega) (by omega) h))
      | true =>
        rw [List.countP_cons_of_pos hs, show c + (r.countP (fun e => bt (kn x) e) + 1) = c + 1 + r.countP (fun e => bt (kn x) e) by omega] at h
        exact br_f (by decide) (nm_r (nI_1 c) (nm_r (nI_1 i) (ih (i + 1) (c + 1) n ho.2 (by omega) (by omega) h)))
theorem xw_el {L : List Nat} (hx : x < 3) (hN : L.length ≤ 30) (ho : qq_at od 0 L) (h : post (nI (L.countP (fun e => bt (kn x) e)))) : wpX_elements post (fm, nI L.length, kn, cl, nd, sx, tx, mk, dl, od) (nI x) := by
  unfold wpX_elements
  dsimp only
  exact xr_t hx (br_f (by decide) ⟨L.length + 1, xw_el14 hx hN L 0 0 _ ho (by omega) (by omega) (by rw [Nat.zero_add]; exact h)⟩)
theorem xw_pl15 (hx : x < 3) (hN : N ≤ 30) : ∀ (r : List Nat) (i c n : Nat), qq_at od i r → i + r.length = N → r.length < n → post (qq_pl (qq_sh kn dl x) p r c) → wX_placeOf_15 post (nI x) p fm (nI N) kn cl nd sx tx mk dl od n (nI c) (nI i) := by
  intro r
  induction r with
  | nil =>
    intro i c n ho hi hn h
    cases n with
    | zero => cases hn
    | succ n => exact br_t (nI_le (by simp at hi; omega) (by simp at hi; omega)) h
  | cons e r ih =>
    intro i c n ho hi hn h
    rw [List.length_cons] at hi hn
    cases n with
    | zero => cases hn
    | succ n =>
      refine br_f (nI_ge (by omega) (by omega)) ⟨vp_in_nI (by omega) (by decide), ?_⟩
      rw [nI_clamp (by omega), ho.1.1]
      refine xw_shown hx ho.1.2 ?_
      unfold qq_pl at h
      cases hs : qq_sh kn dl x e with
      | false =>
        rw [hs] at h
        exact br_t rfl (nm_r (nI_1 i) (ih (i + 1) c n ho.2 (by omega) (by omega) h))
      | true =>
        rw [hs, if_pos rfl] at h
        refine br_f (by decide) ⟨vp_in_nI (by omega) (by decide), ?_⟩
        by_cases hc : nI e = p
        · rw [if_pos hc] at h
          exact br_t hc h
        · rw [if_neg hc] at h
          exact br_f hc (nm_r (nI_1 c) (nm_r (nI_1 i) (ih (i + 1) (c + 1) n ho.2 (by omega) (by omega) h)))
theorem xw_pl {L : List Nat} (hx : x < 3) (hN : L.length ≤ 30) (ho : qq_at od 0 L) (h : post (qq_pl (qq_sh kn dl x) p L 0)) : wpX_placeOf post (fm, nI L.length, kn, cl, nd, sx, tx, mk, dl, od) (nI x) p := by
  unfold wpX_placeOf
  dsimp only
  exact xr_t hx (br_f (by decide) ⟨L.length + 1, xw_pl15 hx hN L 0 0 _ ho (by omega) (by omega) h⟩)
theorem xw_at_f {L A B : List Nat} {e : Nat} (hx : x < 3) (hN : L.length ≤ 30) (ho : qq_at od 0 L) (hL : L = A ++ e :: B) (he : qq_sh kn dl x e = true) (hp : nI (A.countP (qq_sh kn dl x)) = p) (h : post (sx e)) : wpX_at post (fm, nI L.length, kn, cl, nd, sx, tx, mk, dl, od) (nI x) p := by
  unfold wpX_at
  dsimp only
  refine xr_t hx (br_f (by decide) (xw_ix hx hN ho ?_))
  have hA : A.length < 30 := by rw [hL] at hN; simp at hN; omega
  rw [hL] at ho
  obtain ⟨h1, h2⟩ := qq_at_mid ho
  rw [hL, qq_ix_f _ _ _ _ he A 0 0 (by omega) (by rw [Nat.zero_add]; exact hp), Nat.zero_add]
  refine br_f (fun z => ?_) ⟨vp_in_nI hA (by decide), ?_⟩
  · exact nI_pos (n := A.length) (by omega) (by rw [z]; decide)
  · rw [nI_clamp (by omega), h1, nI_clamp (by omega)]
    exact ⟨vp_in_nI h2 (by decide), h⟩
theorem xw_at_n {L : List Nat} (hx : x < 3) (hN : L.length ≤ 30) (ho : qq_at od 0 L) (hn : ∀ A e B, L = A ++ e :: B → qq_sh kn dl x e = true → ¬ nI (A.countP (qq_sh kn dl x)) = p) (h : post (-1)) : wpX_at post (fm, nI L.length, kn, cl, nd, sx, tx, mk, dl, od) (nI x) p := by
  unfold wpX_at
  dsimp only
  refine xr_t hx (br_f (by decide) (xw_ix hx hN ho ?_))
  rw [qq_ix_n _ _ L 0 0 (fun A e B h1 h2 => by rw [Nat.zero_add]; exact hn A e B h1 h2)]
  exact br_t rfl h
theorem xw_mb_f {L A B : List Nat} {e : Nat} (hx : x < 3) (hN : L.length ≤ 30) (ho : qq_at od 0 L) (hL : L = A ++ e :: B) (he : qq_sh kn dl x e = true) (hp : nI (A.countP (qq_sh kn dl x)) = p) (h : post (nI e)) : wpX_madeBy post (fm, nI L.length, kn, cl, nd, sx, tx, mk, dl, od) (nI x) p := by
  unfold wpX_madeBy
  dsimp only
  refine xr_t hx (br_f (by decide) (xw_ix hx hN ho ?_))
  have hA : A.length < 30 := by rw [hL] at hN; simp at hN; omega
  rw [hL] at ho
  obtain ⟨h1, h2⟩ := qq_at_mid ho
  rw [hL, qq_ix_f _ _ _ _ he A 0 0 (by omega) (by rw [Nat.zero_add]; exact hp), Nat.zero_add]
  refine br_f (fun z => ?_) ⟨vp_in_nI hA (by decide), ?_⟩
  · exact nI_pos (n := A.length) (by omega) (by rw [z]; decide)
  · rw [nI_clamp (by omega), h1]
    exact h
theorem xw_mb_n {L : List Nat} (hx : x < 3) (hN : L.length ≤ 30) (ho : qq_at od 0 L) (hn : ∀ A e B, L = A ++ e :: B → qq_sh kn dl x e = true → ¬ nI (A.countP (qq_sh kn dl x)) = p) (h : post (-1)) : wpX_madeBy post (fm, nI L.length, kn, cl, nd, sx, tx, mk, dl, od) (nI x) p := by
  unfold wpX_madeBy
  dsimp only
  refine xr_t hx (br_f (by decide) (xw_ix hx hN ho ?_))
  rw [qq_ix_n _ _ L 0 0 (fun A e B h1 h2 => by rw [Nat.zero_add]; exact hn A e B h1 h2)]
  exact br_t rfl h
end
end
section
/-! the reference's private methods: replica, isKnown, descends, branch, before -/
theorem yr_t {post : Int32 → Prop} {u : SY} {x : Nat} (hx : x < 3) (h : post 1) : wpY_replica post u (nI x) := by
  unfold wpY_replica
  exact br_f (nI_pos (by omega)) (br_f (nI_nlt (a := 2) (by omega) (by decide)) h)
theorem yr_f {post : Int32 → Prop} {u : SY} {x : Int32} (hx : x < 0 ∨ nI 3 ≤ x) (h : post 0) : wpY_replica post u x := by
  unfold wpY_replica
  by_cases h0 : x < 0
  · exact br_t h0 h
  · rcases hx with hx | hx
    · exact absurd hx h0
    · exact br_f h0 (br_t (Int32.lt_of_lt_of_le (by decide) hx) h)
def qq_dc : Nat → Int32
  | 0 => -1
  | c + 1 => nI c
/-- the forest of the elements: links, stamps, paths of keys by codes (0: no parent, q + 1: element q) -/
def qq_fo (m : Nat) (sy lk ty mk : Nat → Int32) (t w pr : Nat → Nat) (Q : Nat → List Nat) : Prop :=
  Q 0 = [] ∧ ∀ e, e < m → ¬ sy e < 0 → (lk e = qq_dc (pr e) ∧ pr e ≤ e ∧ (∀ q, pr e = q + 1 → ¬ sy q < 0) ∧ Q (e + 1) = Q (pr e) ++ [3 * t e + w e] ∧ ty e = nI (t e) ∧ mk e = nI (w e) ∧ w e < 3 ∧ t e ≤ m ∧ ∀ k, k ∈ Q (pr e) → k < 3 * t e + w e)
def qq_un (m : Nat) (sy : Nat → Int32) (t w : Nat → Nat) : Prop := ∀ e f, e < m → f < m → ¬ sy e < 0 → ¬ sy f < 0 → 3 * t e + w e = 3 * t f + w f → e = f
theorem qq_snoc {X G A : List Nat} {k a : Nat} (h : X ++ [k] = G ++ a :: A) : (A = [] ∧ X = G ∧ k = a) ∨ (∃ A', A = A' ++ [k] ∧ X = G ++ a :: A') := by
  rcases List.eq_nil_or_concat A with hA | ⟨A', b, hA⟩
  · subst hA
    have h2 := List.append_inj' h rfl
    have h3 := h2.2
    simp at h3
    exact Or.inl ⟨rfl, h2.1, h3⟩
  · rw [List.concat_eq_append] at hA
    subst hA
    rw [show G ++ a :: (A' ++ [b]) = (G ++ a :: A') ++ [b] by simp] at h
    have h2 := List.append_inj' h rfl
    have h3 := h2.2
    simp at h3
    exact Or.inr ⟨A', by rw [h3], h2.1⟩
section
variable {post : Int32 → Prop} {m : Nat} {sy lk mk ty nd kn cl : Nat → Int32} {t w pr : Nat → Nat} {Q : Nat → List Nat}
theorem yw_known {x e : Nat} (hx : x < 3) (hm : m ≤ 30) (he : e < m) (h : post (qq_b (bt (kn x) e))) : wpY_isKnown post (nI m, sy, lk, mk, ty, nd, kn, cl) (nI x) (nI e) := by
  unfold wpY_isKnown
  dsimp only
  refine br_f (nI_pos (by omega)) (br_f (nI_ge he (by omega)) ⟨vp_in_nI hx (by decide), ?_⟩)
  rw [nI_clamp (by omega)]
  cases hb : bt (kn x) e with
  | false =>
    rw [hb] at h
    exact br_f (fun z => by rw [(qq_y (by omega)).mp z] at hb; cases hb) h
  | true =>
    rw [hb] at h
    exact br_t ((qq_y (by omega)).mpr hb) h
theorem yw_known0 {x : Nat} {e : Int32} (he : e < 0 ∨ nI m ≤ e) (h : post 0) : wpY_isKnown post (nI m, sy, lk, mk, ty, nd, kn, cl) (nI x) e := by
  unfold wpY_isKnown
  dsimp only
  by_cases h0 : e < 0
  · exact br_t h0 h
  · rcases he with he | he
    · exact absurd he h0
    · exact br_f h0 (br_t he h)
theorem yw_d10 (hm : m ≤ 30) (hF : qq_fo m sy lk ty mk t w pr Q) (hU : qq_un m sy t w) {a : Nat} (ha : a < m) (hea : ¬ sy a < 0) : ∀ (n c k : Nat), (∀ q, c = q + 1 → q < m ∧ ¬ sy q < 0) → c + k ≤ 30 → c < n → (Q (a + 1) <+: Q c → post 1) → (¬ Q (a + 1) <+: Q c → post 0) → wY_descends_10 post (nI a) (nI m) sy lk mk ty nd kn cl n (qq_dc c) (nI k) := by
  intro n
  induction n with
  | zero => intro c k _ _ h; cases h
  | succ n ih =>
    intro c k hc hk hn hp hq
    cases c with
    | zero =>
      have h0 : post 0 := by
        apply hq
        rw [hF.1, (hF.2 a ha hea).2.2.2.1]
        intro h
        have h2 := h.length_le
        simp at h2
      have h1 : wY_descends_39 post (nI a) (qq_dc 0) (nI m) sy lk mk ty nd kn cl := br_t (by decide) h0
      exact br_c (fun _ => h1) (fun _ => br_t (by decide) h1)
    | succ q =>
      obtain ⟨hqm, hqe⟩ := hc q rfl
      show wY_descends_10 post (nI a) (nI m) sy lk mk ty nd kn cl (n + 1) (nI q) (nI k)
      have hq0 : ¬ nI q < 0 := nI_pos (by omega)
      refine br_f (nI_ge (b := 30) (by omega) (by decide)) (br_f hq0 ?_)
      by_cases hqa : q = a
      · subst hqa
        exact br_t rfl (br_f hq0 (br_t rfl (hp (List.prefix_refl _))))
      · refine br_f (fun z => hqa ((nI_eq (by omega) (by omega)).mp z)) ⟨vp_in_nI (by omega) (by decide), ?_⟩
        obtain ⟨f1, f2, f3, f4, _⟩ := hF.2 q hqm hqe
        have hpre : Q (a + 1) <+: Q (q + 1) ↔ Q (a + 1) <+: Q (pr q) := by
          rw [f4, List.prefix_concat_iff]
          constructor
          · rintro (h | h)
            · rw [(hF.2 a ha hea).2.2.2.1] at h
              have h2 := (List.append_inj' h rfl).2
              simp at h2
              exact absurd (hU q a hqm ha hqe hea (by omega)) hqa
            · exact h
          · exact Or.inr
        rw [nI_clamp (by omega), f1]
        refine nm_e (nm_r (nI_1 k) (ih (pr q) (k + 1) ?_ (by omega) (by omega) (fun h => hp (hpre.mpr h)) (fun h => hq (fun z => h (hpre.mp z)))))
        intro q' hq'
        exact ⟨by omega, f3 q' hq'⟩
theorem yw_desc (hm : m ≤ 30) (hF : qq_fo m sy lk ty mk t w pr Q) (hU : qq_un m sy t w) {e a : Nat} (he : e < m) (hee : ¬ sy e < 0) (ha : a < m) (hea : ¬ sy a < 0) (hp : Q (a + 1) <+: Q (pr e) → post 1) (hn : ¬ Q (a + 1) <+: Q (pr e) → post 0) : wpY_descends post (nI m, sy, lk, mk, ty, nd, kn, cl) (nI e) (nI a) := by
  unfold wpY_descends
  dsimp only
  obtain ⟨f1, f2, f3, f4, _⟩ := hF.2 e he hee
  refine ⟨vp_in_nI (by omega) (by decide), ?_⟩
  rw [nI_clamp (by omega), f1]
  exact nm_e ⟨pr e + 1, yw_d10 hm hF hU ha hea (pr e + 1) (pr e) 0 (fun q h => ⟨by omega, f3 q h⟩) (by omega) (by omega) hp hn⟩
theorem yw_br5 (hm : m ≤ 30) (hF : qq_fo m sy lk ty mk t w pr Q) (hU : qq_un m sy t w) {f : Nat} (hf : f < m) (hef : ¬ sy f < 0) {G B : List Nat} {a b : Nat} (hab : a ≠ b) (hQf : Q (f + 1) = G ++ b :: B) (hp : ∀ r, r < m → ¬ sy r < 0 → Q (r + 1) = G ++ [a] → post (nI r)) : ∀ (n p k : Nat) (A : List Nat), p < m → ¬ sy p < 0 → p + k < 30 → p < n → Q (p + 1) = G ++ a :: A → wY_branch_5 post (nI f) (nI m) sy lk mk ty nd kn cl n (nI p) (nI k) := by
  obtain ⟨g1, g2, g3, g4, _⟩ := hF.2 f hf hef
  have hGf : G <+: Q (pr f) := by
    rw [hQf] at g4
    rcases qq_snoc g4.symm with ⟨_, h, _⟩ | ⟨A', _, h⟩
    · rw [h]; exact List.prefix_refl _
    · rw [h]; exact List.prefix_append _ _
  have hQf2 : Q (pr f) <+: G ++ b :: B := by rw [← hQf, g4]; exact List.prefix_append _ _
  intro n
  induction n with
  | zero => intro p k A _ _ _ h; cases h
  | succ n ih =>
    intro p k A hpm hep hk hn hQ
    obtain ⟨f1, f2, f3, f4, _⟩ := hF.2 p hpm hep
    refine br_f (nI_ge (b := 30) (by omega) (by decide)) ⟨vp_in_nI (by omega) (by decide), ?_⟩
    rw [nI_clamp (by omega), f1]
    rw [hQ] at f4
    cases hpr : pr p with
    | zero =>
      refine br_t (by decide) (hp p hpm hep ?_)
      rw [hpr, hF.1] at f4
      rcases qq_snoc f4.symm with ⟨h1, h2, h3⟩ | ⟨A', h1, h2⟩
      · rw [hQ, h1]
      · have h3 := congrArg List.length h2
        simp at h3
    | succ q =>
      have hq := f3 q hpr
      refine br_f (nI_pos (by omega)) ⟨vp_in_nI (by omega) (by decide), ?_⟩
      rw [hpr] at f4
      refine yw_desc hm hF hU hf hef (by omega) hq ?_ ?_
      · intro hpre
        refine br_f (by decide) (hp p hpm hep ?_)
        rcases qq_snoc f4.symm with ⟨h1, h2, h3⟩ | ⟨A', h1, h2⟩
        · rw [hQ, h1]
        · rw [h2] at hpre
          have h3 := List.IsPrefix.trans hpre hQf2
          rw [List.prefix_append_right_inj, List.cons_prefix_cons] at h3
          exact absurd h3.1 hab
      · intro hpre
        rcases qq_snoc f4.symm with ⟨h1, h2, h3⟩ | ⟨A', h1, h2⟩
        · rw [h2] at hpre
          exact absurd hGf hpre
        · exact br_t rfl ⟨vp_in_nI (by omega) (by decide), nm_e (nm_r (nI_1 k) (ih q (k + 1) A' (by omega) hq (by omega) (by omega) h2))⟩
theorem yw_branch (hm : m ≤ 30) (hF : qq_fo m sy lk ty mk t w pr Q) (hU : qq_un m sy t w) {e f : Nat} (he : e < m) (hee : ¬ sy e < 0) (hf : f < m) (hef : ¬ sy f < 0) {G A B : List Nat} {a b : Nat} (hab : a ≠ b) (hQe : Q (e + 1) = G ++ a :: A) (hQf : Q (f + 1) = G ++ b :: B) (hp : ∀ r, r < m → ¬ sy r < 0 → Q (r + 1) = G ++ [a] → post (nI r)) : wpY_branch post (nI m, sy, lk, mk, ty, nd, kn, cl) (nI e) (nI f) := by
  unfold wpY_branch
  exact ⟨e + 1, yw_br5 hm hF hU hf hef hab hQf hp (e + 1) e 0 A he hee (by omega) (by omega) hQe⟩
theorem yw_px (hF : qq_fo m sy lk ty mk t w pr Q) (hU : qq_un m sy t w) {a b : Nat} (ha : a < m) (hea : ¬ sy a < 0) (hb : b < m) (heb : ¬ sy b < 0) (hab : a ≠ b) : Q (a + 1) ≠ Q (b + 1) ∧ (Q (a + 1) <+: Q (b + 1) ↔ Q (a + 1) <+: Q (pr b)) := by
  have hne : Q (a + 1) ≠ Q (b + 1) := by
    rw [(hF.2 a ha hea).2.2.2.1, (hF.2 b hb heb).2.2.2.1]
    intro h
    have h2 := (List.append_inj' h rfl).2
    simp at h2
    exact hab (hU a b ha hb hea heb h2)
  refine ⟨hne, ?_⟩
  constructor
  · intro h
    rw [(hF.2 b hb heb).2.2.2.1, List.prefix_concat_iff, ← (hF.2 b hb heb).2.2.2.1] at h
    rcases h with h | h
    · exact absurd h hne
    · exact h
  · intro h
    rw [(hF.2 b hb heb).2.2.2.1]
    exact List.IsPrefix.trans h (List.prefix_append _ _)
theorem yw_key (hF : qq_fo m sy lk ty mk t w pr Q) {r : Nat} {G : List Nat} {a : Nat} (hr : r < m) (her : ¬ sy r < 0) (h : Q (r + 1) = G ++ [a]) : 3 * t r + w r = a := by
  rw [(hF.2 r hr her).2.2.2.1] at h
  have h2 := (List.append_inj' h rfl).2
  simp at h2
  exact h2
theorem yw_b18 (hm : m ≤ 30) (hF : qq_fo m sy lk ty mk t w pr Q) (hU : qq_un m sy t w) {a b : Nat} (ha : a < m) (hea : ¬ sy a < 0) (hb : b < m) (heb : ¬ sy b < 0) (hp : Q (a + 1) <+: Q (pr b) → post 1) (hn : ¬ Q (a + 1) <+: Q (pr b) → post 0) : wY_before_18 post (nI a) (nI b) (nI m) sy lk mk ty nd kn cl := by
  unfold wY_before_18
  exact yw_desc hm hF hU hb heb ha hea (fun h => ⟨rfl, hp h⟩) (fun h => ⟨rfl, hn h⟩)
theorem yw_before (hm : m ≤ 30) (hF : qq_fo m sy lk ty mk t w pr Q) (hU : qq_un m sy t w) {a b : Nat} (ha : a < m) (hea : ¬ sy a < 0) (hb : b < m) (heb : ¬ sy b < 0) (hab : a ≠ b) (h : post (qq_b (qq_bf (Q (a + 1)) (Q (b + 1))))) : wpY_before post (nI m, sy, lk, mk, ty, nd, kn, cl) (nI a) (nI b) := by
  unfold wpY_before
  dsimp only
  obtain ⟨hne, hx1⟩ := yw_px hF hU ha hea hb heb hab
  obtain ⟨_, hx2⟩ := yw_px hF hU hb heb ha hea (Ne.symm hab)
  refine yw_desc hm hF hU hb heb ha hea ?_ ?_
  · intro h1
    refine br_f (by decide) (yw_b18 hm hF hU ha hea hb heb (fun _ => ?_) (fun z => absurd h1 z))
    rw [qq_bf_px (hx1.mpr h1) hne] at h
    exact h
  · intro h1
    refine br_t rfl (yw_desc hm hF hU ha hea hb heb ?_ ?_)
    · intro h2
      refine br_f (by decide) (yw_b18 hm hF hU ha hea hb heb (fun z => absurd z h1) (fun _ => ?_))
      rw [qq_bf_as (qq_bf_px (hx2.mpr h2) (Ne.symm hne))] at h
      exact h
    · intro h2
      refine br_t rfl ?_
      rcases qq_split (Q (a + 1)) (Q (b + 1)) with h3 | h3 | ⟨G, x, y, A, B, h3, h4, h5⟩
      · exact absurd (hx1.mp h3) h1
      · exact absurd (hx2.mp h3) h2
      · rw [h3, h4, qq_bf_ne h5] at h
        refine yw_branch hm hF hU ha hea hb heb h5 h3 h4 (fun r hr her hQr => ?_)
        refine yw_branch hm hF hU hb heb ha hea (Ne.symm h5) h4 h3 (fun s hs hes hQs => ?_)
        have kr := yw_key hF hr her hQr
        have ks := yw_key hF hs hes hQs
        obtain ⟨_, _, _, _, r1, r2, r3, r4, _⟩ := hF.2 r hr her
        obtain ⟨_, _, _, _, s1, s2, s3, s4, _⟩ := hF.2 s hs hes
        have vr : vp_in (nI r) 30 := vp_in_nI (by omega) (by decide)
        have vs : vp_in (nI s) 30 := vp_in_nI (by omega) (by decide)
        refine ⟨vr, vs, ?_⟩
        rw [nI_clamp (show r < 2 ^ 31 by omega), nI_clamp (show s < 2 ^ 31 by omega), r1, s1, r2, s2]
        refine pk_lt (t s) (t r) (fun hlt => ?_) (fun hge => ⟨vr, vs, ?_⟩)
        · rw [decide_eq_true (by omega)] at h
          exact h
        · refine pk_eq (t r) (t s) (fun heq => ⟨vr, vs, ?_⟩) (fun hne => ?_)
          · refine pk_le (w r) (w s) (fun hle => ?_) (fun hgt => ?_)
            · rw [decide_eq_false (by omega)] at h
              exact h
            · rw [decide_eq_true (by omega)] at h
              exact h
          · rw [decide_eq_false (by omega)] at h
            exact h
end
end
section
/-! the reference's stands, rank, element, length, elements -/
def qq_el (sy : Nat → Int32) (e : Nat) : Bool := decide (¬ sy e < 0)
theorem qq_el_t {sy : Nat → Int32} {e : Nat} : qq_el sy e = true ↔ ¬ sy e < 0 := by
  unfold qq_el
  rw [decide_eq_true_iff]
def qq_G (m : Nat) (sy lk ty mk dl : Nat → Int32) (t w pr : Nat → Nat) (Q : Nat → List Nat) (L : List Nat) : Prop :=
  m ≤ 30 ∧ qq_fo m sy lk ty mk t w pr Q ∧ qq_un m sy t w ∧ (∀ e d, e < 30 → d < 32 → (bt (dl e) d = true ↔ (d < m ∧ sy d < 0 ∧ lk d = nI e))) ∧ L.Pairwise (fun a b => qq_bf (Q (a + 1)) (Q (b + 1)) = true) ∧ L.Perm ((List.range m).filter (qq_el sy))
section
variable {post : Int32 → Prop} {m x : Nat} {sy lk mk ty nd kn cl dl : Nat → Int32} {t w pr : Nat → Nat} {Q : Nat → List Nat} {L : List Nat}
theorem yw_s0 {x1 x2 : Int32} (hm : m ≤ 30) (h : post 0) : ∀ (d i n : Nat), i + d = m → d < n → wY_stands_27 post x1 x2 (nI m) sy lk mk ty nd kn cl n 0 (nI i) := by
  intro d
  induction d with
  | zero =>
    intro i n hi hn
    cases n with
    | zero => cases hn
    | succ n => exact br_t (nI_le (by omega) (by omega)) ⟨rfl, h⟩
  | succ d ih =>
    intro i n hi hn
    cases n with
    | zero => cases hn
    | succ n => exact br_f (nI_ge (by omega) (by omega)) (br_t rfl (nm_r (nI_1 i) (ih (i + 1) n (by omega) (by omega))))
theorem yw_s1 {x2 : Int32} (hx : x < 3) (hm : m ≤ 30) : ∀ (d i n : Nat), i + d = m → d < n → ((∀ f, i ≤ f → f < m → bt (kn x) f = true → sy f < 0 → lk f = x2 → False) → post 1) → ((∃ f, i ≤ f ∧ f < m ∧ bt (kn x) f = true ∧ sy f < 0 ∧ lk f = x2) → post 0) → wY_stands_27 post (nI x) x2 (nI m) sy lk mk ty nd kn cl n 1 (nI i) := by
  intro d
  induction d with
  | zero =>
    intro i n hi hn hp hq
    cases n with
    | zero => cases hn
    | succ n => exact br_t (nI_le (by omega) (by omega)) ⟨rfl, hp (fun f h1 h2 => by omega)⟩
  | succ d ih =>
    intro i n hi hn hp hq
    cases n with
    | zero => cases hn
    | succ n =>
      have next : ¬ (bt (kn x) i = true ∧ sy i < 0 ∧ lk i = x2) → wY_stands_27 post (nI x) x2 (nI m) sy lk mk ty nd kn cl n 1 (nI (i + 1)) := by
        intro hno
        refine ih (i + 1) n (by omega) (by omega) (fun h => hp (fun f h1 h2 h3 h4 h5 => ?_)) (fun h => hq ?_)
        · by_cases hf : f = i
          · subst hf
            exact hno ⟨h3, h4, h5⟩
          · exact h f (by omega) h2 h3 h4 h5
        · obtain ⟨f, h1, h2⟩ := h
          exact ⟨f, by omega, h2⟩
      refine br_f (nI_ge (by omega) (by omega)) (br_f (by decide) (yw_known hx hm (by omega) ?_))
      cases hb : bt (kn x) i with
      | false => exact br_t rfl (nm_r (nI_1 i) (next (fun z => by rw [hb] at z; cases z.1)))
      | true =>
        refine br_f (by decide) ⟨vp_in_nI (by omega) (by decide), ?_⟩
        rw [nI_clamp (by omega)]
        by_cases hs : 0 ≤ sy i
        · exact br_t hs (nm_r (nI_1 i) (next (fun z => Int32.not_lt.mpr hs z.2.1)))
        · refine br_f hs ⟨vp_in_nI (by omega) (by decide), ?_⟩
          by_cases hl : lk i = x2
          · exact br_t hl (nm_r (nI_1 i) (yw_s0 hm (hq ⟨i, by omega, by omega, hb, Int32.not_le.mp hs, hl⟩) d (i + 1) n (by omega) (by omega)))
          · exact br_f hl (nm_r (nI_1 i) (next (fun z => hl z.2.2)))
theorem qq_sh_iff (hD : ∀ e d, e < 30 → d < 32 → (bt (dl e) d = true ↔ (d < m ∧ sy d < 0 ∧ lk d = nI e))) (hm : m ≤ 30) {e : Nat} (he : e < 30) : (kn x &&& dl e = 0) ↔ (∀ f, 0 ≤ f → f < m → bt (kn x) f = true → sy f < 0 → lk f = nI e → False) := by
  rw [qq_and0]
  constructor
  · intro h f _ h1 h2 h3 h4
    exact h f (by omega) h2 ((hD e f he (by omega)).mpr ⟨h1, h3, h4⟩)
  · intro h f h1 h2 h3
    obtain ⟨h4, h5, h6⟩ := (hD e f he h1).mp h3
    exact h f (by omega) h4 h2 h5 h6
theorem yw_stands (hx : x < 3) (hG : qq_G m sy lk ty mk dl t w pr Q L) {e : Nat} (he : e < m) (h : post (qq_b (qq_el sy e && qq_sh kn dl x e))) : wpY_stands post (nI m, sy, lk, mk, ty, nd, kn, cl) (nI x) (nI e) := by
  obtain ⟨hm, hF, hU, hD, hP, hL⟩ := hG
  unfold wpY_stands
  dsimp only
  refine yw_known hx hm he ?_
  unfold qq_sh at h
  cases hb : bt (kn x) e with
  | false =>
    rw [hb, Bool.false_and, Bool.and_false] at h
    exact br_t rfl ⟨m + 1, yw_s0 hm h m 0 _ (by omega) (by omega)⟩
  | true =>
    rw [hb, Bool.true_and] at h
    refine br_f (by decide) ⟨vp_in_nI (by omega) (by decide), ?_⟩
    rw [nI_clamp (by omega)]
    by_cases hs : sy e < 0
    · have h2 : qq_el sy e = false := by
        unfold qq_el
        simp [hs]
      rw [h2, Bool.false_and] at h
      exact br_t hs ⟨m + 1, yw_s0 hm h m 0 _ (by omega) (by omega)⟩
    · rw [qq_el_t.mpr hs, Bool.true_and] at h
      refine br_f hs ⟨m + 1, yw_s1 hx hm m 0 _ (by omega) (by omega) (fun z => ?_) (fun z => ?_)⟩
      · rw [decide_eq_true ((qq_sh_iff hD hm (by omega)).mpr z)] at h
        exact h
      · rw [decide_eq_false] at h
        · exact h
        · intro z2
          obtain ⟨f, h1, h2, h3, h4, h5⟩ := z
          exact (qq_sh_iff hD hm (by omega)).mp z2 f h1 h2 h3 h4 h5
theorem yw_stands0 (hm : m ≤ 30) {e : Int32} (he : e < 0 ∨ nI m ≤ e) (h : post 0) : wpY_stands post (nI m, sy, lk, mk, ty, nd, kn, cl) (nI x) e := by
  unfold wpY_stands
  dsimp only
  exact yw_known0 he (br_t rfl ⟨m + 1, yw_s0 hm h m 0 _ (by omega) (by omega)⟩)
theorem yw_r5 (hx : x < 3) (hG : qq_G m sy lk ty mk dl t w pr Q L) {e : Nat} (he : e < m) (hee : ¬ sy e < 0) : ∀ (d f c n : Nat), f + d = m → d < n → post (nI (c + (List.range' f d).countP (fun g => qq_el sy g && (qq_sh kn dl x g && qq_bf (Q (g + 1)) (Q (e + 1)))))) → wY_rank_5 post (nI x) (nI e) (nI m) sy lk mk ty nd kn cl n (nI c) (nI f) := by
  have hm := hG.1
  intro d
  induction d with
  | zero =>
    intro f c n hf hn h
    cases n with
    | zero => cases hn
    | succ n => exact br_t (nI_le (by omega) (by omega)) h
  | succ d ih =>
    intro f c n hf hn h
    cases n with
    | zero => cases hn
    | succ n =>
      rw [List.range'_succ] at h
      have skip : (qq_el sy f && (qq_sh kn dl x f && qq_bf (Q (f + 1)) (Q (e + 1)))) = false → wY_rank_5 post (nI x) (nI e) (nI m) sy lk mk ty nd kn cl n (nI c) (nI (f + 1)) := by
        intro hz
        rw [List.countP_cons_of_neg (by simp only [hz]; decide)] at h
        exact ih (f + 1) c n (by omega) (by omega) h
      refine br_f (nI_ge (by omega) (by omega)) ?_
      by_cases hfe : f = e
      · subst hfe
        exact br_t rfl (nm_r (nI_1 f) (skip (by rw [qq_bf_irr, Bool.and_false, Bool.and_false])))
      · refine br_f (fun z => hfe ((nI_eq (by omega) (by omega)).mp z)) (yw_stands hx hG (by omega) ?_)
        cases hs : qq_el sy f && qq_sh kn dl x f with
        | false =>
          exact br_t rfl (nm_r (nI_1 f) (skip (by rw [← Bool.and_assoc, hs, Bool.false_and])))
        | true =>
          have hel : qq_el sy f = true := by
            cases hz : qq_el sy f with
            | false => rw [hz, Bool.false_and] at hs; cases hs
            | true => rfl
          refine br_f (by decide) (yw_before hm hG.2.1 hG.2.2.1 (by omega) (qq_el_t.mp hel) he hee hfe ?_)
          cases hb : qq_bf (Q (f + 1)) (Q (e + 1)) with
          | false => exact br_t rfl (nm_r (nI_1 f) (skip (by rw [hb, Bool.and_false, Bool.and_false])))
          | true =>
            rw [List.countP_cons_of_pos (by rw [← Bool.and_assoc, hs, hb]; rfl), Nat.add_comm _ 1, ← Nat.add_assoc] at h
            exact br_f (by decide) (nm_r (nI_1 c) (nm_r (nI_1 f) (ih (f + 1) (c + 1) n (by omega) (by omega) h)))
theorem yw_rank (hx : x < 3) (hG : qq_G m sy lk ty mk dl t w pr Q L) {A B : List Nat} {e : Nat} (hL : L = A ++ e :: B) (h : post (nI (A.countP (qq_sh kn dl x)))) : wpY_rank post (nI m, sy, lk, mk, ty, nd, kn, cl) (nI x) (nI e) := by
  unfold wpY_rank
  have hG2 := hG
  obtain ⟨hm, hF, hU, hD, hP, hPm⟩ := hG2
  have hmem : e ∈ L := by rw [hL]; simp
  obtain ⟨he, hee⟩ := (qq_mem hPm).mp hmem
  refine ⟨m + 1, yw_r5 (L := L) hx hG he (qq_el_t.mp hee) m 0 0 _ (by omega) (by omega) ?_⟩
  rw [← List.range_eq_range', Nat.zero_add, qq_perm hPm (fun g => qq_sh kn dl x g && qq_bf (Q (g + 1)) (Q (e + 1)))]
  rw [hL] at hP ⊢
  rw [qq_rank (P := fun a => Q (a + 1)) (qq_sh kn dl x) hP]
  exact h
theorem yw_e2f (hx : x < 3) (hG : qq_G m sy lk ty mk dl t w pr Q L) {A B : List Nat} {e : Nat} {p : Int32} (hL : L = A ++ e :: B) (he : qq_sh kn dl x e = true) (hp : nI (A.countP (qq_sh kn dl x)) = p) (h : post (nI e)) : ∀ (d f n : Nat), f + d = e → d < n → wY_element_2 post (nI x) p (nI m) sy lk mk ty nd kn cl n (nI f) := by
  have hG2 := hG
  obtain ⟨hm, hF, hU, hD, hP, hPm⟩ := hG2
  have hmem : e ∈ L := by rw [hL]; simp
  obtain ⟨hem, hee⟩ := (qq_mem hPm).mp hmem
  intro d
  induction d with
  | zero =>
    intro f n hf hn
    cases n with
    | zero => cases hn
    | succ n =>
      have hfe : f = e := by omega
      subst hfe
      refine br_f (nI_ge (by omega) (by omega)) (yw_stands hx hG hem ?_)
      rw [hee, he]
      exact br_f (by decide) (yw_rank hx hG hL (br_t hp h))
  | succ d ih =>
    intro f n hf hn
    cases n with
    | zero => cases hn
    | succ n =>
      refine br_f (nI_ge (by omega) (by omega)) (yw_stands hx hG (by omega) ?_)
      cases hs : qq_el sy f && qq_sh kn dl x f with
      | false => exact br_t rfl (nm_r (nI_1 f) (ih (f + 1) n (by omega) (by omega)))
      | true =>
        rw [Bool.and_eq_true] at hs
        have hfL : f ∈ L := (qq_mem hPm).mpr ⟨by omega, hs.1⟩
        obtain ⟨A', B', hL'⟩ := List.append_of_mem hfL
        refine br_f (by decide) (yw_rank hx hG hL' (br_f ?_ (nm_r (nI_1 f) (ih (f + 1) n (by omega) (by omega)))))
        intro z
        have hlen := qq_len hPm
        have c1 := List.countP_le_length (p := qq_sh kn dl x) (l := A)
        have c2 := List.countP_le_length (p := qq_sh kn dl x) (l := A')
        have l1 := congrArg List.length hL
        have l2 := congrArg List.length hL'
        simp at l1 l2
        rw [← hp, nI_eq (by omega) (by omega)] at z
        have := (qq_cut (qq_sh kn dl x) A' A f e B' B (by rw [← hL', ← hL]) hs.2 he z).2.1
        omega
theorem yw_e2n (hx : x < 3) (hG : qq_G m sy lk ty mk dl t w pr Q L) {p : Int32} (hn : ∀ A e B, L = A ++ e :: B → qq_sh kn dl x e = true → ¬ nI (A.countP (qq_sh kn dl x)) = p) (h : post (-1)) : ∀ (d f n : Nat), f + d = m → d < n → wY_element_2 post (nI x) p (nI m) sy lk mk ty nd kn cl n (nI f) := by
  have hG2 := hG
  obtain ⟨hm, hF, hU, hD, hP, hPm⟩ := hG2
  intro d
  induction d with
  | zero =>
    intro f n hf hn
    cases n with
    | zero => cases hn
    | succ n => exact br_t (nI_le (by omega) (by omega)) h
  | succ d ih =>
    intro f n hf hnn
    cases n with
    | zero => cases hnn
    | succ n =>
      refine br_f (nI_ge (by omega) (by omega)) (yw_stands hx hG (by omega) ?_)
      cases hs : qq_el sy f && qq_sh kn dl x f with
      | false => exact br_t rfl (nm_r (nI_1 f) (ih (f + 1) n (by omega) (by omega)))
      | true =>
        rw [Bool.and_eq_true] at hs
        have hfL : f ∈ L := (qq_mem hPm).mpr ⟨by omega, hs.1⟩
        obtain ⟨A', B', hL'⟩ := List.append_of_mem hfL
        exact br_f (by decide) (yw_rank hx hG hL' (br_f (hn A' f B' hL' hs.2) (nm_r (nI_1 f) (ih (f + 1) n (by omega) (by omega)))))
theorem yw_el_f (hx : x < 3) (hG : qq_G m sy lk ty mk dl t w pr Q L) {A B : List Nat} {e : Nat} {p : Int32} (hL : L = A ++ e :: B) (he : qq_sh kn dl x e = true) (hp : nI (A.countP (qq_sh kn dl x)) = p) (h : post (nI e)) : wpY_element post (nI m, sy, lk, mk, ty, nd, kn, cl) (nI x) p := by
  unfold wpY_element
  exact ⟨e + 1, yw_e2f hx hG hL he hp h e 0 _ (by omega) (by omega)⟩
theorem yw_el_n (hx : x < 3) (hG : qq_G m sy lk ty mk dl t w pr Q L) {p : Int32} (hn : ∀ A e B, L = A ++ e :: B → qq_sh kn dl x e = true → ¬ nI (A.countP (qq_sh kn dl x)) = p) (h : post (-1)) : wpY_element post (nI m, sy, lk, mk, ty, nd, kn, cl) (nI x) p := by
  unfold wpY_element
  exact ⟨m + 1, yw_e2n hx hG hn h m 0 _ (by omega) (by omega)⟩
theorem yw_l4 (hx : x < 3) (hG : qq_G m sy lk ty mk dl t w pr Q L) : ∀ (d f c n : Nat), f + d = m → d < n → post (nI (c + (List.range' f d).countP (fun g => qq_el sy g && qq_sh kn dl x g))) → wY_length_4 post (nI x) (nI m) sy lk mk ty nd kn cl n (nI c) (nI f) := by
  have hm := hG.1
  intro d
  induction d with
  | zero =>
    intro f c n hf hn h
    cases n with
    | zero => cases hn
    | succ n =>
      refine br_t (nI_le (by omega) (by omega)) ?_
      unfold wY_length_43
      exact yr_t hx (br_f (by decide) h)
  | succ d ih =>
    intro f c n hf hn h
    cases n with
    | zero => cases hn
    | succ n =>
      rw [List.range'_succ] at h
      refine br_f (nI_ge (by omega) (by omega)) (yr_t hx (br_f (by decide) (yw_stands hx hG (by omega) ?_)))
      cases hs : qq_el sy f && qq_sh kn dl x f with
      | false =>
        rw [List.countP_cons_of_neg (by simp only [hs]; decide)] at h
        exact br_t rfl (nm_r (nI_1 f) (ih (f + 1) c n (by omega) (by omega) h))
      | true =>
        rw [List.countP_cons_of_pos (by exact hs), Nat.add_comm _ 1, ← Nat.add_assoc] at h
        exact br_f (by decide) (nm_r (nI_1 c) (nm_r (nI_1 f) (ih (f + 1) (c + 1) n (by omega) (by omega) h)))
theorem yw_len (hx : x < 3) (hG : qq_G m sy lk ty mk dl t w pr Q L) (h : post (nI (L.countP (qq_sh kn dl x)))) : wpY_length post (nI m, sy, lk, mk, ty, nd, kn, cl) (nI x) := by
  unfold wpY_length
  refine ⟨m + 1, yw_l4 hx hG m 0 0 _ (by omega) (by omega) ?_⟩
  rw [← List.range_eq_range', Nat.zero_add, qq_perm hG.2.2.2.2.2 (qq_sh kn dl x)]
  exact h
theorem yw_len0 {x1 : Int32} (hx : x1 < 0 ∨ nI 3 ≤ x1) (h : post (-1)) : wpY_length post (nI m, sy, lk, mk, ty, nd, kn, cl) x1 := by
  unfold wpY_length
  have h1 : wY_length_43 post x1 0 (nI m) sy lk mk ty nd kn cl := by
    unfold wY_length_43
    exact yr_f hx (br_t rfl h)
  exact ⟨1, br_c (fun _ => h1) (fun _ => yr_f hx (br_t rfl h1))⟩
theorem yw_m4 (hx : x < 3) (hm : m ≤ 30) : ∀ (d f c n : Nat), f + d = m → d < n → post (nI (c + (List.range' f d).countP (fun g => qq_el sy g && bt (kn x) g))) → wY_elements_4 post (nI x) (nI m) sy lk mk ty nd kn cl n (nI c) (nI f) := by
  intro d
  induction d with
  | zero =>
    intro f c n hf hn h
    cases n with
    | zero => cases hn
    | succ n =>
      refine br_t (nI_le (by omega) (by omega)) ?_
      unfold wY_elements_52
      exact yr_t hx (br_f (by decide) h)
  | succ d ih =>
    intro f c n hf hn h
    cases n with
    | zero => cases hn
    | succ n =>
      rw [List.range'_succ] at h
      refine br_f (nI_ge (by omega) (by omega)) (yr_t hx (br_f (by decide) (yw_known hx hm (by omega) ?_)))
      cases hb : bt (kn x) f with
      | false =>
        rw [List.countP_cons_of_neg (by simp [hb])] at h
        exact br_t rfl (nm_r (nI_1 f) (ih (f + 1) c n (by omega) (by omega) h))
      | true =>
        refine br_f (by decide) ⟨vp_in_nI (by omega) (by decide), ?_⟩
        rw [nI_clamp (by omega)]
        by_cases hs : sy f < 0
        · rw [List.countP_cons_of_neg (by simp [qq_el, hs])] at h
          exact br_t hs (nm_r (nI_1 f) (ih (f + 1) c n (by omega) (by omega) h))
        · rw [List.countP_cons_of_pos (by rw [qq_el_t.mpr hs, hb]; rfl), Nat.add_comm _ 1, ← Nat.add_assoc] at h
          exact br_f hs (nm_r (nI_1 c) (nm_r (nI_1 f) (ih (f + 1) (c + 1) n (by omega) (by omega) h)))
theorem yw_els (hx : x < 3) (hG : qq_G m sy lk ty mk dl t w pr Q L) (h : post (nI (L.countP (fun e => bt (kn x) e)))) : wpY_elements post (nI m, sy, lk, mk, ty, nd, kn, cl) (nI x) := by
  unfold wpY_elements
  refine ⟨m + 1, yw_m4 hx hG.1 m 0 0 _ (by omega) (by omega) ?_⟩
  rw [← List.range_eq_range', Nat.zero_add, qq_perm hG.2.2.2.2.2 (fun e => bt (kn x) e)]
  exact h
theorem yw_els0 {x1 : Int32} (hx : x1 < 0 ∨ nI 3 ≤ x1) (h : post (-1)) : wpY_elements post (nI m, sy, lk, mk, ty, nd, kn, cl) x1 := by
  unfold wpY_elements
  have h1 : wY_elements_52 post x1 0 (nI m) sy lk mk ty nd kn cl := by
    unfold wY_elements_52
    exact yr_f hx (br_t rfl h)
  exact ⟨1, br_c (fun _ => h1) (fun _ => yr_f hx (br_t rfl h1))⟩
theorem yw_at_f (hx : x < 3) (hG : qq_G m sy lk ty mk dl t w pr Q L) {A B : List Nat} {e : Nat} {p : Int32} (hL : L = A ++ e :: B) (he : qq_sh kn dl x e = true) (hp : nI (A.countP (qq_sh kn dl x)) = p) (h : post (sy e)) : wpY_at post (nI m, sy, lk, mk, ty, nd, kn, cl) (nI x) p := by
  have hmem : e ∈ L := by rw [hL]; simp
  have hem := ((qq_mem hG.2.2.2.2.2).mp hmem).1
  have hm := hG.1
  unfold wpY_at
  dsimp only
  refine yr_t hx (br_f (by decide) (yw_el_f hx hG hL he hp ?_))
  unfold wY_at_18
  refine br_t (nI_pos' (by omega)) ⟨vp_in_nI (by omega) (by decide), ?_⟩
  rw [nI_clamp (by omega)]
  exact h
theorem yw_at_n (hx : x < 3) (hG : qq_G m sy lk ty mk dl t w pr Q L) {p : Int32} (hn : ∀ A e B, L = A ++ e :: B → qq_sh kn dl x e = true → ¬ nI (A.countP (qq_sh kn dl x)) = p) (h : post (-1)) : wpY_at post (nI m, sy, lk, mk, ty, nd, kn, cl) (nI x) p := by
  unfold wpY_at
  dsimp only
  refine yr_t hx (br_f (by decide) (yw_el_n hx hG hn ?_))
  unfold wY_at_18
  exact br_f (by decide) h
end
end
section
/-! the relation, and the methods that only read -/
def qq_H (m : Nat) (kn cl sx tx od sy ty : Nat → Int32) (t w c : Nat → Nat) (L : List Nat) : Prop :=
  qq_at od 0 L ∧ (∀ e, e < m → ¬ sy e < 0 → sx e = sy e ∧ tx e = ty e) ∧ (∀ e, (m ≤ e ∨ sy e < 0) → tx e = 0) ∧ (∀ x, x < 3 → cl x = nI (c x) ∧ c x ≤ m) ∧ (∀ x e, x < 3 → e < m → ¬ sy e < 0 → bt (kn x) e = true → t e ≤ c x) ∧ (∀ x d, x < 3 → d < 32 → bt (kn x) d = true → d < m) ∧ (∀ e, e < m → ¬ sy e < 0 → bt (kn (w e)) e = true)
def i_Rel (_ : Nat) (u : SX) (v : SY) : Prop :=
  ∃ (m : Nat) (kn cl nd mk sx tx dl od sy lk ty : Nat → Int32) (t w c pr : Nat → Nat) (Q : Nat → List Nat) (L : List Nat), u = (nI m, nI L.length, kn, cl, nd, sx, tx, mk, dl, od) ∧ v = (nI m, sy, lk, mk, ty, nd, kn, cl) ∧ qq_G m sy lk ty mk dl t w pr Q L ∧ qq_H m kn cl sx tx od sy ty t w c L
theorem i_up {k : Nat} {u : SX} {v : SY} (h : i_Rel k u v) : i_Rel (k + 4) u v := h
theorem i_vc0 : wpX_init (fun u => wpY_init (fun v => i_Rel 0 u v)) := by
  unfold wpX_init wpY_init
  refine ⟨0, (fun _ => 0), (fun _ => 0), (fun _ => 0), (fun _ => 0), (fun _ => 0), (fun _ => 0), (fun _ => 0), (fun _ => 0), (fun _ => 0), (fun _ => 0), (fun _ => 0), (fun _ => 0), (fun _ => 0), (fun _ => 0), (fun _ => 0), (fun _ => []), [], rfl, rfl, ?_, ?_⟩
  · refine ⟨by decide, ⟨rfl, fun e he => absurd he (Nat.not_lt_zero e)⟩, fun e f he => absurd he (Nat.not_lt_zero e), ?_, List.Pairwise.nil, ?_⟩
    · intro e d _ _
      dsimp only
      rw [b_0]
      constructor
      · intro h; cases h
      · intro h; exact absurd h.1 (Nat.not_lt_zero d)
    · exact List.Perm.refl _
  · refine ⟨trivial, fun e he => absurd he (Nat.not_lt_zero e), fun e _ => rfl, fun x _ => ⟨rfl, Nat.le_refl 0⟩, fun x e _ he => absurd he (Nat.not_lt_zero e), ?_, fun e he => absurd he (Nat.not_lt_zero e)⟩
    intro x d _ _ h
    dsimp only at h
    rw [b_0] at h
    cases h
theorem i_vc_events {k : Nat} {u : SX} {v : SY} (I : i_Rel k u v) (hk : k + 4 ≤ 2048) : wpX_events (fun r => wpY_events (fun r' => r' = r ∧ i_Rel (k + 4) u v) v) u := by
  have J := i_up I
  obtain ⟨m, kn, cl, nd, mk, sx, tx, dl, od, sy, lk, ty, t, w, c, pr, Q, L, rfl, rfl, hG, hH⟩ := I
  exact ⟨rfl, J⟩
theorem i_vc_known {k : Nat} {u : SX} {v : SY} (I : i_Rel k u v) (hk : k + 4 ≤ 2048) (v1 : Int32) : wpX_known (fun r => wpY_known (fun r' => r' = r ∧ i_Rel (k + 4) u v) v v1) u v1 := by
  have J := i_up I
  obtain ⟨m, kn, cl, nd, mk, sx, tx, dl, od, sy, lk, ty, t, w, c, pr, Q, L, rfl, rfl, hG, hH⟩ := I
  unfold wpX_known wpY_known
  dsimp only
  rcases pk_ix v1 (n := 3) (by decide) with h | h | ⟨x, hx, rfl⟩
  · exact xr_f (Or.inl h) (br_t rfl (yr_f (Or.inl h) (br_t rfl ⟨rfl, J⟩)))
  · exact xr_f (Or.inr h) (br_t rfl (yr_f (Or.inr h) (br_t rfl ⟨rfl, J⟩)))
  · have hv : vp_in (nI x) 3 := vp_in_nI hx (by decide)
    exact xr_t hx (br_f (by decide) ⟨hv, yr_t hx (br_f (by decide) ⟨hv, rfl, J⟩)⟩)
theorem i_vc_clock {k : Nat} {u : SX} {v : SY} (I : i_Rel k u v) (hk : k + 4 ≤ 2048) (v1 : Int32) : wpX_clock (fun r => wpY_clock (fun r' => r' = r ∧ i_Rel (k + 4) u v) v v1) u v1 := by
  have J := i_up I
  obtain ⟨m, kn, cl, nd, mk, sx, tx, dl, od, sy, lk, ty, t, w, c, pr, Q, L, rfl, rfl, hG, hH⟩ := I
  unfold wpX_clock wpY_clock
  dsimp only
  rcases pk_ix v1 (n := 3) (by decide) with h | h | ⟨x, hx, rfl⟩
  · exact xr_f (Or.inl h) (br_t rfl (yr_f (Or.inl h) (br_t rfl ⟨rfl, J⟩)))
  · exact xr_f (Or.inr h) (br_t rfl (yr_f (Or.inr h) (br_t rfl ⟨rfl, J⟩)))
  · have hv : vp_in (nI x) 3 := vp_in_nI hx (by decide)
    exact xr_t hx (br_f (by decide) ⟨hv, yr_t hx (br_f (by decide) ⟨hv, rfl, J⟩)⟩)
theorem qq_l30 {m : Nat} {sy lk ty mk dl : Nat → Int32} {t w pr : Nat → Nat} {Q : Nat → List Nat} {L : List Nat} (hG : qq_G m sy lk ty mk dl t w pr Q L) : L.length ≤ 30 := Nat.le_trans (qq_len hG.2.2.2.2.2) hG.1
theorem i_vc_length {k : Nat} {u : SX} {v : SY} (I : i_Rel k u v) (hk : k + 4 ≤ 2048) (v1 : Int32) : wpX_length (fun r => wpY_length (fun r' => r' = r ∧ i_Rel (k + 4) u v) v v1) u v1 := by
  have J := i_up I
  obtain ⟨m, kn, cl, nd, mk, sx, tx, dl, od, sy, lk, ty, t, w, c, pr, Q, L, rfl, rfl, hG, hH⟩ := I
  have bad : (v1 < 0 ∨ nI 3 ≤ v1) → wpX_length (fun r => wpY_length (fun r' => r' = r ∧ i_Rel (k + 4) (nI m, nI L.length, kn, cl, nd, sx, tx, mk, dl, od) (nI m, sy, lk, mk, ty, nd, kn, cl)) (nI m, sy, lk, mk, ty, nd, kn, cl) v1) (nI m, nI L.length, kn, cl, nd, sx, tx, mk, dl, od) v1 := by
    intro h
    unfold wpX_length
    dsimp only
    exact xr_f h (br_t rfl (yw_len0 h ⟨rfl, J⟩))
  rcases pk_ix v1 (n := 3) (by decide) with h | h | ⟨x, hx, rfl⟩
  · exact bad (Or.inl h)
  · exact bad (Or.inr h)
  · exact xw_len hx (qq_l30 hG) hH.1 (yw_len hx hG ⟨rfl, J⟩)
theorem i_vc_elements {k : Nat} {u : SX} {v : SY} (I : i_Rel k u v) (hk : k + 4 ≤ 2048) (v1 : Int32) : wpX_elements (fun r => wpY_elements (fun r' => r' = r ∧ i_Rel (k + 4) u v) v v1) u v1 := by
  have J := i_up I
  obtain ⟨m, kn, cl, nd, mk, sx, tx, dl, od, sy, lk, ty, t, w, c, pr, Q, L, rfl, rfl, hG, hH⟩ := I
  have bad : (v1 < 0 ∨ nI 3 ≤ v1) → wpX_elements (fun r => wpY_elements (fun r' => r' = r ∧ i_Rel (k + 4) (nI m, nI L.length, kn, cl, nd, sx, tx, mk, dl, od) (nI m, sy, lk, mk, ty, nd, kn, cl)) (nI m, sy, lk, mk, ty, nd, kn, cl) v1) (nI m, nI L.length, kn, cl, nd, sx, tx, mk, dl, od) v1 := by
    intro h
    unfold wpX_elements
    dsimp only
    exact xr_f h (br_t rfl (yw_els0 h ⟨rfl, J⟩))
  rcases pk_ix v1 (n := 3) (by decide) with h | h | ⟨x, hx, rfl⟩
  · exact bad (Or.inl h)
  · exact bad (Or.inr h)
  · exact xw_el hx (qq_l30 hG) hH.1 (yw_els hx hG ⟨rfl, J⟩)
theorem qq_found (s : Nat → Bool) (L : List Nat) (p : Int32) : (∃ A e B, L = A ++ e :: B ∧ s e = true ∧ nI (A.countP s) = p) ∨ (∀ A e B, L = A ++ e :: B → s e = true → ¬ nI (A.countP s) = p) := by
  by_cases h : ∃ A e B, L = A ++ e :: B ∧ s e = true ∧ nI (A.countP s) = p
  · exact Or.inl h
  · exact Or.inr (fun A e B h1 h2 h3 => h ⟨A, e, B, h1, h2, h3⟩)
theorem i_vc_at {k : Nat} {u : SX} {v : SY} (I : i_Rel k u v) (hk : k + 4 ≤ 2048) (v1 : Int32) (v2 : Int32) : wpX_at (fun r => wpY_at (fun r' => r' = r ∧ i_Rel (k + 4) u v) v v1 v2) u v1 v2 := by
  have J := i_up I
  obtain ⟨m, kn, cl, nd, mk, sx, tx, dl, od, sy, lk, ty, t, w, c, pr, Q, L, rfl, rfl, hG, hH⟩ := I
  have bad : (v1 < 0 ∨ nI 3 ≤ v1) → wpX_at (fun r => wpY_at (fun r' => r' = r ∧ i_Rel (k + 4) (nI m, nI L.length, kn, cl, nd, sx, tx, mk, dl, od) (nI m, sy, lk, mk, ty, nd, kn, cl)) (nI m, sy, lk, mk, ty, nd, kn, cl) v1 v2) (nI m, nI L.length, kn, cl, nd, sx, tx, mk, dl, od) v1 v2 := by
    intro h
    unfold wpX_at wpY_at wY_at_18
    dsimp only
    exact xr_f h (br_t rfl (yr_f h (br_t rfl (br_f (by decide) ⟨rfl, J⟩))))
  rcases pk_ix v1 (n := 3) (by decide) with h | h | ⟨x, hx, rfl⟩
  · exact bad (Or.inl h)
  · exact bad (Or.inr h)
  · rcases qq_found (qq_sh kn dl x) L v2 with ⟨A, e, B, h1, h2, h3⟩ | h
    · have he := (qq_mem hG.2.2.2.2.2).mp (show e ∈ L by rw [h1]; simp)
      exact xw_at_f hx (qq_l30 hG) hH.1 h1 h2 h3 (yw_at_f hx hG h1 h2 h3 ⟨((hH.2.1 e he.1 (qq_el_t.mp he.2)).1).symm, J⟩)
    · exact xw_at_n hx (qq_l30 hG) hH.1 h (yw_at_n hx hG h ⟨rfl, J⟩)
theorem i_vc_madeBy {k : Nat} {u : SX} {v : SY} (I : i_Rel k u v) (hk : k + 4 ≤ 2048) (v1 : Int32) (v2 : Int32) : wpX_madeBy (fun r => wpY_madeBy (fun r' => r' = r ∧ i_Rel (k + 4) u v) v v1 v2) u v1 v2 := by
  have J := i_up I
  obtain ⟨m, kn, cl, nd, mk, sx, tx, dl, od, sy, lk, ty, t, w, c, pr, Q, L, rfl, rfl, hG, hH⟩ := I
  have bad : (v1 < 0 ∨ nI 3 ≤ v1) → wpX_madeBy (fun r => wpY_madeBy (fun r' => r' = r ∧ i_Rel (k + 4) (nI m, nI L.length, kn, cl, nd, sx, tx, mk, dl, od) (nI m, sy, lk, mk, ty, nd, kn, cl)) (nI m, sy, lk, mk, ty, nd, kn, cl) v1 v2) (nI m, nI L.length, kn, cl, nd, sx, tx, mk, dl, od) v1 v2 := by
    intro h
    unfold wpX_madeBy wpY_madeBy
    dsimp only
    exact xr_f h (br_t rfl (yr_f h (br_t rfl ⟨rfl, J⟩)))
  rcases pk_ix v1 (n := 3) (by decide) with h | h | ⟨x, hx, rfl⟩
  · exact bad (Or.inl h)
  · exact bad (Or.inr h)
  · rcases qq_found (qq_sh kn dl x) L v2 with ⟨A, e, B, h1, h2, h3⟩ | h
    · refine xw_mb_f hx (qq_l30 hG) hH.1 h1 h2 h3 ?_
      unfold wpY_madeBy
      dsimp only
      exact yr_t hx (br_f (by decide) (yw_el_f hx hG h1 h2 h3 ⟨rfl, J⟩))
    · refine xw_mb_n hx (qq_l30 hG) hH.1 h ?_
      unfold wpY_madeBy
      dsimp only
      exact yr_t hx (br_f (by decide) (yw_el_n hx hG h ⟨rfl, J⟩))
theorem i_vc_placeOf {k : Nat} {u : SX} {v : SY} (I : i_Rel k u v) (hk : k + 4 ≤ 2048) (v1 : Int32) (v2 : Int32) : wpX_placeOf (fun r => wpY_placeOf (fun r' => r' = r ∧ i_Rel (k + 4) u v) v v1 v2) u v1 v2 := by
  have J := i_up I
  obtain ⟨m, kn, cl, nd, mk, sx, tx, dl, od, sy, lk, ty, t, w, c, pr, Q, L, rfl, rfl, hG, hH⟩ := I
  have hm := hG.1
  have hPm := hG.2.2.2.2.2
  have bad : (v1 < 0 ∨ nI 3 ≤ v1) → wpX_placeOf (fun r => wpY_placeOf (fun r' => r' = r ∧ i_Rel (k + 4) (nI m, nI L.length, kn, cl, nd, sx, tx, mk, dl, od) (nI m, sy, lk, mk, ty, nd, kn, cl)) (nI m, sy, lk, mk, ty, nd, kn, cl) v1 v2) (nI m, nI L.length, kn, cl, nd, sx, tx, mk, dl, od) v1 v2 := by
    intro h
    unfold wpX_placeOf wpY_placeOf
    dsimp only
    exact xr_f h (br_t rfl (yr_f h (br_t rfl ⟨rfl, J⟩)))
  rcases pk_ix v1 (n := 3) (by decide) with h | h | ⟨x, hx, rfl⟩
  · exact bad (Or.inl h)
  · exact bad (Or.inr h)
  · have out : (v2 < 0 ∨ nI m ≤ v2) → wpX_placeOf (fun r => wpY_placeOf (fun r' => r' = r ∧ i_Rel (k + 4) (nI m, nI L.length, kn, cl, nd, sx, tx, mk, dl, od) (nI m, sy, lk, mk, ty, nd, kn, cl)) (nI m, sy, lk, mk, ty, nd, kn, cl) (nI x) v2) (nI m, nI L.length, kn, cl, nd, sx, tx, mk, dl, od) (nI x) v2 := by
      intro h
      refine xw_pl hx (qq_l30 hG) hH.1 ?_
      rw [qq_pl_n]
      · unfold wpY_placeOf
        dsimp only
        exact yr_t hx (br_f (by decide) (yw_stands0 hm h (br_t rfl ⟨rfl, J⟩)))
      · intro e he _ z
        have hem := ((qq_mem hPm).mp he).1
        subst z
        rcases h with h | h
        · exact nI_pos (by omega) h
        · exact nI_ge hem (by omega) h
    rcases pk_ix v2 (n := m) (by omega) with h | h | ⟨e, he, rfl⟩
    · exact out (Or.inl h)
    · exact out (Or.inr h)
    · refine xw_pl hx (qq_l30 hG) hH.1 ?_
      unfold wpY_placeOf
      dsimp only
      refine yr_t hx (br_f (by decide) (yw_stands hx hG he ?_))
      cases hs : qq_el sy e && qq_sh kn dl x e with
      | false =>
        rw [qq_pl_n]
        · exact br_t rfl ⟨rfl, J⟩
        · intro f hf hsf z
          have hfm := (qq_mem hPm).mp hf
          have hfe := (nI_eq (by omega) (by omega)).mp z
          subst hfe
          rw [hfm.2, hsf] at hs
          cases hs
      | true =>
        rw [Bool.and_eq_true] at hs
        obtain ⟨A, B, hL⟩ := List.append_of_mem ((qq_mem hPm).mpr ⟨he, hs.1⟩)
        have hP := hG.2.2.2.2.1
        rw [hL, List.pairwise_append] at hP
        refine br_f (by decide) (yw_rank hx hG hL ⟨?_, J⟩)
        rw [hL, qq_pl_f _ _ _ hs.2 (by omega) A 0, Nat.zero_add]
        intro a ha
        constructor
        · intro z
          subst z
          have h2 := hP.2.2 a ha a List.mem_cons_self
          rw [qq_bf_irr] at h2
          cases h2
        · have := ((qq_mem hPm).mp (show a ∈ L by rw [hL]; exact List.mem_append_left _ ha)).1
          omega
end
section
/-! same -/
section
variable {m x : Nat} {sy lk mk ty nd kn cl dl sx tx od : Nat → Int32} {t w c pr : Nat → Nat} {Q : Nat → List Nat} {L : List Nat}
theorem vw_at (hx : x < 3) (hG : qq_G m sy lk ty mk dl t w pr Q L) (hH : qq_H m kn cl sx tx od sy ty t w c L) (p : Nat) (hp : p < 2 ^ 31) : ∃ r : Int32, (∀ post : Int32 → Prop, post r → wpX_at post (nI m, nI L.length, kn, cl, nd, sx, tx, mk, dl, od) (nI x) (nI p)) ∧ (∀ post : Int32 → Prop, post r → wpY_at post (nI m, sy, lk, mk, ty, nd, kn, cl) (nI x) (nI p)) ∧ (L.countP (qq_sh kn dl x) ≤ p → r = -1) := by
  rcases qq_found (qq_sh kn dl x) L (nI p) with ⟨A, e, B, h1, h2, h3⟩ | h
  · have he := (qq_mem hG.2.2.2.2.2).mp (show e ∈ L by rw [h1]; simp)
    have hs := (hH.2.1 e he.1 (qq_el_t.mp he.2)).1
    refine ⟨sy e, fun post hp => xw_at_f hx (qq_l30 hG) hH.1 h1 h2 h3 (by rw [hs]; exact hp), fun post hp => yw_at_f hx hG h1 h2 h3 hp, ?_⟩
    intro hle
    have hlt := qq_lt h1 h2
    have hl := qq_l30 hG
    have hc := List.countP_le_length (p := qq_sh kn dl x) (l := L)
    rw [nI_eq (by omega) hp] at h3
    omega
  · exact ⟨-1, fun post hp => xw_at_n hx (qq_l30 hG) hH.1 h hp, fun post hp => yw_at_n hx hG h hp, fun _ => rfl⟩
theorem yw_same0 {x1 x2 : Int32} {post : Int32 → Prop} {p : Nat} (h : post 0) (n : Nat) : wY_same_38 post x1 x2 (nI m) sy lk mk ty nd kn cl (n + 1) 0 (nI p) :=
  br_c (fun _ => ⟨rfl, h⟩) (fun _ => br_t rfl ⟨rfl, h⟩)
theorem yw_same1 {y : Nat} (hx : x < 3) (hy : y < 3) (hG : qq_G m sy lk ty mk dl t w pr Q L) (hH : qq_H m kn cl sx tx od sy ty t w c L) {post : Int32 → Prop} (h : post 1) : ∀ (d p n : Nat), p + d = 30 → d < n → L.countP (qq_sh kn dl x) ≤ p → L.countP (qq_sh kn dl y) ≤ p → wY_same_38 post (nI x) (nI y) (nI m) sy lk mk ty nd kn cl n 1 (nI p) := by
  intro d
  induction d with
  | zero =>
    intro p n hp hn h1 h2
    cases n with
    | zero => cases hn
    | succ n => exact br_t (nI_le (a := 30) (by omega) (by omega)) ⟨rfl, h⟩
  | succ d ih =>
    intro p n hp hn h1 h2
    cases n with
    | zero => cases hn
    | succ n =>
      refine br_f (nI_ge (b := 30) (by omega) (by decide)) (br_f (by decide) ?_)
      obtain ⟨r1, _, a2, a3⟩ := vw_at (nd := nd) hx hG hH p (by omega)
      obtain ⟨r2, _, b2, b3⟩ := vw_at (nd := nd) hy hG hH p (by omega)
      refine a2 _ (b2 _ ?_)
      exact br_t ((a3 h1).trans (b3 h2).symm) (nm_r (nI_1 p) (ih (p + 1) n (by omega) (by omega) (by omega) (by omega)))
theorem vw_same {y E : Nat} (hx : x < 3) (hy : y < 3) (hG : qq_G m sy lk ty mk dl t w pr Q L) (hH : qq_H m kn cl sx tx od sy ty t w c L) (hE : L.countP (qq_sh kn dl x) = E) (hE2 : L.countP (qq_sh kn dl y) = E) (hE3 : E ≤ 30) : ∀ d p : Nat, p + d = E → ∃ b : Bool, (∀ (post : Int32 → Prop) (n : Nat), d < n → post (qq_b b) → wX_same_38 post (nI x) (nI y) (nI E) (nI m) (nI L.length) kn cl nd sx tx mk dl od n (nI p)) ∧ (∀ (post : Int32 → Prop) (n : Nat), 31 - p < n → post (qq_b b) → wY_same_38 post (nI x) (nI y) (nI m) sy lk mk ty nd kn cl n 1 (nI p)) := by
  intro d
  induction d with
  | zero =>
    intro p hp
    refine ⟨true, fun post n hn h => ?_, fun post n hn h => ?_⟩
    · cases n with
      | zero => cases hn
      | succ n => exact br_t (nI_le (by omega) (by omega)) h
    · exact yw_same1 hx hy hG hH h (30 - p) p n (by omega) (by omega) (by omega) (by omega)
  | succ d ih =>
    intro p hp
    obtain ⟨r1, a1, a2, _⟩ := vw_at (nd := nd) hx hG hH p (by omega)
    obtain ⟨r2, b1, b2, _⟩ := vw_at (nd := nd) hy hG hH p (by omega)
    by_cases hr : r1 = r2
    · obtain ⟨b, i1, i2⟩ := ih (p + 1) (by omega)
      refine ⟨b, fun post n hn h => ?_, fun post n hn h => ?_⟩
      · cases n with
        | zero => cases hn
        | succ n => exact br_f (nI_ge (by omega) (by omega)) (a1 _ (b1 _ (br_t hr (nm_r (nI_1 p) (i1 post n (by omega) h)))))
      · cases n with
        | zero => cases hn
        | succ n => exact br_f (nI_ge (b := 30) (by omega) (by decide)) (br_f (by decide) (a2 _ (b2 _ (br_t hr (nm_r (nI_1 p) (i2 post n (by omega) h))))))
    · refine ⟨false, fun post n hn h => ?_, fun post n hn h => ?_⟩
      · cases n with
        | zero => cases hn
        | succ n => exact br_f (nI_ge (by omega) (by omega)) (a1 _ (b1 _ (br_f hr h)))
      · cases n with
        | zero => cases hn
        | succ n =>
          cases n with
          | zero => omega
          | succ n => exact br_f (nI_ge (b := 30) (by omega) (by decide)) (br_f (by decide) (a2 _ (b2 _ (br_f hr (nm_r (nI_1 p) (yw_same0 h n))))))
end
theorem i_vc_same {k : Nat} {u : SX} {v : SY} (I : i_Rel k u v) (hk : k + 4 ≤ 2048) (v1 : Int32) (v2 : Int32) : wpX_same (fun r => wpY_same (fun r' => r' = r ∧ i_Rel (k + 4) u v) v v1 v2) u v1 v2 := by
  have J := i_up I
  obtain ⟨m, kn, cl, nd, mk, sx, tx, dl, od, sy, lk, ty, t, w, c, pr, Q, L, rfl, rfl, hG, hH⟩ := I
  unfold wpX_same wpY_same
  dsimp only
  have h0 : ∀ post : Int32 → Prop, post 0 → ∃ n38 : Nat, wY_same_38 post v1 v2 (nI m) sy lk mk ty nd kn cl n38 0 0 := fun post h => ⟨1, yw_same0 (p := 0) h 0⟩
  have bad1 : (v1 < 0 ∨ nI 3 ≤ v1) ∨ ∃ x, x < 3 ∧ v1 = nI x := by
    rcases pk_ix v1 (n := 3) (by decide) with h | h | h
    · exact Or.inl (Or.inl h)
    · exact Or.inl (Or.inr h)
    · exact Or.inr h
  have bad2 : (v2 < 0 ∨ nI 3 ≤ v2) ∨ ∃ x, x < 3 ∧ v2 = nI x := by
    rcases pk_ix v2 (n := 3) (by decide) with h | h | h
    · exact Or.inl (Or.inl h)
    · exact Or.inl (Or.inr h)
    · exact Or.inr h
  rcases bad1 with h | ⟨x, hx, rfl⟩
  · exact xr_f h (br_t rfl (yr_f h (br_t rfl (h0 _ ⟨rfl, J⟩))))
  · rcases bad2 with h | ⟨y, hy, rfl⟩
    · exact xr_t hx (br_f (by decide) (xr_f h (br_t rfl (yr_t hx (br_f (by decide) (yr_f h (br_t rfl (h0 _ ⟨rfl, J⟩))))))))
    · have hl := qq_l30 hG
      have c1 := List.countP_le_length (p := qq_sh kn dl x) (l := L)
      have c2 := List.countP_le_length (p := qq_sh kn dl y) (l := L)
      refine xr_t hx (br_f (by decide) (xr_t hy (br_f (by decide) (xw_len hx hl hH.1 (xw_len hy hl hH.1 ?_)))))
      by_cases he : L.countP (qq_sh kn dl x) = L.countP (qq_sh kn dl y)
      · obtain ⟨b, i1, i2⟩ := vw_same (nd := nd) hx hy hG hH rfl he.symm (by omega) (L.countP (qq_sh kn dl x)) 0 (by omega)
        refine br_t (by rw [he]) ⟨_, i1 _ (L.countP (qq_sh kn dl x) + 1) (by omega) ?_⟩
        exact yr_t hx (br_f (by decide) (yr_t hy (br_f (by decide) (yw_len hx hG (yw_len hy hG (br_t (by rw [he]) ⟨32, i2 _ 32 (by omega) ⟨rfl, J⟩⟩))))))
      · have hne : ¬ nI (L.countP (qq_sh kn dl x)) = nI (L.countP (qq_sh kn dl y)) := fun z => he ((nI_eq (by omega) (by omega)).mp z)
        exact br_f hne (yr_t hx (br_f (by decide) (yr_t hy (br_f (by decide) (yw_len hx hG (yw_len hy hG (br_f hne (h0 _ ⟨rfl, J⟩))))))))
end
section
/-! learn and catchUp -/
theorem qq_uk {kn : Nat → Int32} {x y e f : Nat} (he : e < 32) (hf : f < 32) : bt (upd kn x (kn x ||| ((1 : Int32) <<< (nI e &&& 31))) y) f = (bt (kn y) f || (decide (y = x) && decide (f = e))) := by
  by_cases h : y = x
  · subst h
    rw [pk_us, qq_or he hf]
    simp
  · rw [pk_un h]
    simp [h]
theorem qq_us {f : Nat → Int32} {x : Nat} : upd f x (f x) = f := by
  funext j
  by_cases h : j = x
  · subst h; exact pk_us
  · exact pk_un h
section
variable {m x : Nat} {sy lk mk ty nd kn cl dl sx tx od : Nat → Int32} {t w c pr : Nat → Nat} {Q : Nat → List Nat} {L : List Nat}
theorem qq_Htake {e : Nat} {cl' : Nat → Int32} {c' : Nat → Nat} (hm : m ≤ 30) (he : e < m) (hH : qq_H m kn cl sx tx od sy ty t w c L) (h1 : ∀ y, y < 3 → cl' y = nI (c' y) ∧ c' y ≤ m) (h2 : ∀ y, y < 3 → c y ≤ c' y) (h3 : ¬ sy e < 0 → t e ≤ c' x) : qq_H m (upd kn x (kn x ||| ((1 : Int32) <<< (nI e &&& 31)))) cl' sx tx od sy ty t w c' L := by
  obtain ⟨a1, a2, a3, a4, a5, a6, a7⟩ := hH
  refine ⟨a1, a2, a3, h1, ?_, ?_, ?_⟩
  · intro y f hy hf hef hb
    rw [qq_uk (by omega) (by omega), Bool.or_eq_true, Bool.and_eq_true, decide_eq_true_iff, decide_eq_true_iff] at hb
    rcases hb with hb | ⟨rfl, rfl⟩
    · exact Nat.le_trans (a5 y f hy hf hef hb) (h2 y hy)
    · exact h3 hef
  · intro y d hy hd hb
    rw [qq_uk (by omega) hd, Bool.or_eq_true, Bool.and_eq_true, decide_eq_true_iff, decide_eq_true_iff] at hb
    rcases hb with hb | ⟨rfl, rfl⟩
    · exact a6 y d hy hd hb
    · exact he
  · intro f hf hef
    rw [qq_uk (by omega) (by omega), a7 f hf hef, Bool.true_or]
theorem vw_take {e : Nat} (hx : x < 3) (he : e < m) (hG : qq_G m sy lk ty mk dl t w pr Q L) (hH : qq_H m kn cl sx tx od sy ty t w c L) : ∃ (kn' cl' : Nat → Int32) (c' : Nat → Nat), qq_H m kn' cl' sx tx od sy ty t w c' L ∧ (∀ post : SX → Prop, post (nI m, nI L.length, kn', cl', nd, sx, tx, mk, dl, od) → wpX_take post (nI m, nI L.length, kn, cl, nd, sx, tx, mk, dl, od) (nI x) (nI e)) ∧ (∀ post : SY → Prop, post (nI m, sy, lk, mk, ty, nd, kn', cl') → wpY_raise post (nI m, sy, lk, mk, ty, nd, kn, cl) (nI x) (nI e)) := by
  have hm := hG.1
  have hv : vp_in (nI x) 3 := vp_in_nI hx (by decide)
  have hve : vp_in (nI e) 30 := vp_in_nI (by omega) (by decide)
  have ex : (nI x).toNatClampNeg = x := nI_clamp (by omega)
  have ee : (nI e).toNatClampNeg = e := nI_clamp (by omega)
  obtain ⟨hcx, hcm⟩ := hH.2.2.2.1 x hx
  by_cases hs : sy e < 0
  · have ht := hH.2.2.1 e (Or.inr hs)
    refine ⟨_, cl, c, qq_Htake (x := x) hm he hH hH.2.2.2.1 (fun _ _ => Nat.le_refl _) (fun z => absurd hs z), fun post h => ?_, fun post h => ?_⟩
    · unfold wpX_take
      dsimp only
      rw [ex, ee]
      refine ⟨hv, hv, nm_e ⟨hve, hv, br_t ?_ h⟩⟩
      rw [ht, hcx]
      exact nI_pos' (by omega)
    · unfold wpY_raise
      dsimp only
      rw [ex, ee]
      exact ⟨hv, hv, nm_e ⟨hve, br_t hs ⟨hv, hv, nm_r qq_us h⟩⟩⟩
  · obtain ⟨_, _, _, _, f5, _, _, f8, _⟩ := hG.2.1.2 e he hs
    obtain ⟨_, ht⟩ := hH.2.1 e he hs
    rw [f5] at ht
    by_cases hle : t e ≤ c x
    · have hle' : nI (t e) ≤ nI (c x) := nI_le hle (by omega)
      refine ⟨_, cl, c, qq_Htake (x := x) hm he hH hH.2.2.2.1 (fun _ _ => Nat.le_refl _) (fun _ => hle), fun post h => ?_, fun post h => ?_⟩
      · unfold wpX_take
        dsimp only
        rw [ex, ee]
        refine ⟨hv, hv, nm_e ⟨hve, hv, br_t ?_ h⟩⟩
        rw [ht, hcx]
        exact hle'
      · unfold wpY_raise
        dsimp only
        rw [ex, ee]
        refine ⟨hv, hv, nm_e ⟨hve, br_f hs ⟨hve, hv, br_t ?_ ⟨hv, hv, nm_r qq_us h⟩⟩⟩⟩
        rw [f5, hcx]
        exact hle'
    · have hle' : ¬ nI (t e) ≤ nI (c x) := nI_ge (by omega) (by omega)
      refine ⟨_, upd cl x (nI (t e)), fun y => if y = x then t e else c y, qq_Htake (x := x) hm he hH ?_ ?_ (fun _ => ?_), fun post h => ?_, fun post h => ?_⟩
      · intro y hy
        by_cases hyx : y = x
        · subst hyx
          rw [pk_us, if_pos rfl]
          exact ⟨rfl, f8⟩
        · rw [pk_un hyx, if_neg hyx]
          exact hH.2.2.2.1 y hy
      · intro y hy
        by_cases hyx : y = x
        · subst hyx
          rw [if_pos rfl]
          omega
        · rw [if_neg hyx]
          exact Nat.le_refl _
      · rw [if_pos rfl]
        exact Nat.le_refl _
      · unfold wpX_take
        dsimp only
        rw [ex, ee, ht]
        refine ⟨hv, hv, nm_e ⟨hve, hv, br_f ?_ ⟨hve, hv, nm_e h⟩⟩⟩
        rw [hcx]
        exact hle'
      · unfold wpY_raise
        dsimp only
        rw [ex, ee, f5]
        refine ⟨hv, hv, nm_e ⟨hve, br_f hs ⟨hve, hv, br_f ?_ ⟨hve, hv, nm_e h⟩⟩⟩⟩
        rw [hcx]
        exact hle'
theorem vw_cu {y : Nat} (hx : x < 3) (hy : y < 3) (hG : qq_G m sy lk ty mk dl t w pr Q L) : ∀ (d e n0 : Nat) (kn cl : Nat → Int32) (c : Nat → Nat), e + d = m → qq_H m kn cl sx tx od sy ty t w c L → ∃ (r : Int32) (kn' cl' : Nat → Int32) (c' : Nat → Nat), qq_H m kn' cl' sx tx od sy ty t w c' L ∧ (∀ (post : Int32 → SX → Prop) (n : Nat), d < n → post r (nI m, nI L.length, kn', cl', nd, sx, tx, mk, dl, od) → wX_catchUp_28 post (nI x) (nI y) n (nI n0) (nI e) (nI m) (nI L.length) kn cl nd sx tx mk dl od) ∧ (∀ (post : Int32 → SY → Prop) (n : Nat), d < n → post r (nI m, sy, lk, mk, ty, nd, kn', cl') → wY_catchUp_28 post (nI x) (nI y) n (nI n0) (nI e) (nI m) sy lk mk ty nd kn cl) := by
  have hm := hG.1
  intro d
  induction d with
  | zero =>
    intro e n0 kn cl c he hH
    refine ⟨nI n0, kn, cl, c, hH, fun post n hn h => ?_, fun post n hn h => ?_⟩
    · cases n with
      | zero => cases hn
      | succ n => exact br_t (nI_le (by omega) (by omega)) h
    · cases n with
      | zero => cases hn
      | succ n => exact br_t (nI_le (by omega) (by omega)) h
  | succ d ih =>
    intro e n0 kn cl c he hH
    have hge : ¬ nI m ≤ nI e := nI_ge (by omega) (by omega)
    cases hby : bt (kn y) e with
    | false =>
      obtain ⟨r, kn', cl', c', i1, i2, i3⟩ := ih (e + 1) n0 kn cl c (by omega) hH
      refine ⟨r, kn', cl', c', i1, fun post n hn h => ?_, fun post n hn h => ?_⟩
      · cases n with
        | zero => cases hn
        | succ n =>
          refine br_f hge (xw_knows hy (by omega) ?_)
          rw [hby]
          exact br_t rfl (nm_r (nI_1 e) (i2 post n (by omega) h))
      · cases n with
        | zero => cases hn
        | succ n =>
          refine br_f hge (yw_known hy hm (by omega) ?_)
          rw [hby]
          exact br_t rfl (nm_r (nI_1 e) (i3 post n (by omega) h))
    | true =>
      cases hbx : bt (kn x) e with
      | true =>
        obtain ⟨r, kn', cl', c', i1, i2, i3⟩ := ih (e + 1) n0 kn cl c (by omega) hH
        refine ⟨r, kn', cl', c', i1, fun post n hn h => ?_, fun post n hn h => ?_⟩
        · cases n with
          | zero => cases hn
          | succ n =>
            refine br_f hge (xw_knows hy (by omega) ?_)
            rw [hby]
            refine br_f (by decide) (xw_knows hx (by omega) ?_)
            rw [hbx]
            exact br_f (by decide) (nm_r (nI_1 e) (i2 post n (by omega) h))
        · cases n with
          | zero => cases hn
          | succ n =>
            refine br_f hge (yw_known hy hm (by omega) ?_)
            rw [hby]
            refine br_f (by decide) (yw_known hx hm (by omega) ?_)
            rw [hbx]
            exact br_f (by decide) (nm_r (nI_1 e) (i3 post n (by omega) h))
      | false =>
        obtain ⟨kn1, cl1, c1, j1, j2, j3⟩ := vw_take (e := e) (nd := nd) hx (by omega) hG hH
        obtain ⟨r, kn', cl', c', i1, i2, i3⟩ := ih (e + 1) (n0 + 1) kn1 cl1 c1 (by omega) j1
        refine ⟨r, kn', cl', c', i1, fun post n hn h => ?_, fun post n hn h => ?_⟩
        · cases n with
          | zero => cases hn
          | succ n =>
            refine br_f hge (xw_knows hy (by omega) ?_)
            rw [hby]
            refine br_f (by decide) (xw_knows hx (by omega) ?_)
            rw [hbx]
            exact br_t rfl (j2 _ (nm_r (nI_1 n0) (nm_r (nI_1 e) (i2 post n (by omega) h))))
        · cases n with
          | zero => cases hn
          | succ n =>
            refine br_f hge (yw_known hy hm (by omega) ?_)
            rw [hby]
            refine br_f (by decide) (yw_known hx hm (by omega) ?_)
            rw [hbx]
            exact br_t rfl (j3 _ (nm_r (nI_1 n0) (nm_r (nI_1 e) (i3 post n (by omega) h))))
end
theorem qq_rep (v : Int32) : (v < 0 ∨ nI 3 ≤ v) ∨ ∃ x, x < 3 ∧ v = nI x := by
  rcases pk_ix v (n := 3) (by decide) with h | h | h
  · exact Or.inl (Or.inl h)
  · exact Or.inl (Or.inr h)
  · exact Or.inr h
theorem i_vc_catchUp {k : Nat} {u : SX} {v : SY} (I : i_Rel k u v) (hk : k + 4 ≤ 2048) (v1 : Int32) (v2 : Int32) : wpX_catchUp (fun r u' => wpY_catchUp (fun r' v' => r' = r ∧ i_Rel (k + 4) u' v') v v1 v2) u v1 v2 := by
  have J := i_up I
  obtain ⟨m, kn, cl, nd, mk, sx, tx, dl, od, sy, lk, ty, t, w, c, pr, Q, L, rfl, rfl, hG, hH⟩ := I
  unfold wpX_catchUp wpY_catchUp
  dsimp only
  rcases qq_rep v1 with h | ⟨x, hx, rfl⟩
  · exact xr_f h (br_t rfl (yr_f h (br_t rfl ⟨rfl, J⟩)))
  · rcases qq_rep v2 with h | ⟨y, hy, rfl⟩
    · exact xr_t hx (br_f (by decide) (xr_f h (br_t rfl (yr_t hx (br_f (by decide) (yr_f h (br_t rfl ⟨rfl, J⟩)))))))
    · refine xr_t hx (br_f (by decide) (xr_t hy (br_f (by decide) ?_)))
      by_cases hxy : nI x = nI y
      · exact br_t hxy (yr_t hx (br_f (by decide) (yr_t hy (br_f (by decide) (br_t hxy ⟨rfl, J⟩)))))
      · obtain ⟨r, kn', cl', c', i1, i2, i3⟩ := vw_cu (nd := nd) hx hy hG m 0 0 kn cl c (by omega) hH
        refine br_f hxy ⟨m + 1, i2 _ (m + 1) (by omega) ?_⟩
        refine yr_t hx (br_f (by decide) (yr_t hy (br_f (by decide) (br_f hxy ⟨m + 1, i3 _ (m + 1) (by omega) ⟨rfl, ?_⟩⟩))))
        exact ⟨m, kn', cl', nd, mk, sx, tx, dl, od, sy, lk, ty, t, w, c', pr, Q, L, rfl, rfl, hG, i1⟩
theorem i_vc_learn {k : Nat} {u : SX} {v : SY} (I : i_Rel k u v) (hk : k + 4 ≤ 2048) (v1 : Int32) (v2 : Int32) (v3 : Int32) : wpX_learn (fun r u' => wpY_learn (fun r' v' => r' = r ∧ i_Rel (k + 4) u' v') v v1 v2 v3) u v1 v2 v3 := by
  have J := i_up I
  obtain ⟨m, kn, cl, nd, mk, sx, tx, dl, od, sy, lk, ty, t, w, c, pr, Q, L, rfl, rfl, hG, hH⟩ := I
  have hm := hG.1
  unfold wpX_learn wpY_learn
  dsimp only
  rcases qq_rep v1 with h | ⟨x, hx, rfl⟩
  · exact xr_f h (br_t rfl (yr_f h (br_t rfl ⟨rfl, J⟩)))
  · rcases qq_rep v2 with h | ⟨y, hy, rfl⟩
    · exact xr_t hx (br_f (by decide) (xr_f h (br_t rfl (yr_t hx (br_f (by decide) (yr_f h (br_t rfl ⟨rfl, J⟩)))))))
    · refine xr_t hx (br_f (by decide) (xr_t hy (br_f (by decide) ?_)))
      by_cases hxy : nI x = nI y
      · exact br_t hxy (yr_t hx (br_f (by decide) (yr_t hy (br_f (by decide) (br_t hxy ⟨rfl, J⟩)))))
      · refine br_f hxy ?_
        rcases pk_ix v3 (n := m) (by omega) with h | h | ⟨e, he, rfl⟩
        · exact br_t h (yr_t hx (br_f (by decide) (yr_t hy (br_f (by decide) (br_f hxy (yw_known0 (Or.inl h) (br_t rfl ⟨rfl, J⟩)))))))
        · have h0 : ¬ v3 < 0 := fun z => nI_pos (n := m) (by omega) (Int32.lt_of_le_of_lt h z)
          exact br_f h0 (br_t h (yr_t hx (br_f (by decide) (yr_t hy (br_f (by decide) (br_f hxy (yw_known0 (Or.inr h) (br_t rfl ⟨rfl, J⟩))))))))
        · refine br_f (nI_pos (by omega)) (br_f (nI_ge he (by omega)) (xw_knows hy (by omega) ?_))
          have hv : vp_in (nI x) 3 := vp_in_nI hx (by decide)
          have hve : vp_in (nI e) 30 := vp_in_nI (by omega) (by decide)
          cases hby : bt (kn y) e with
          | false =>
            refine br_t rfl (yr_t hx (br_f (by decide) (yr_t hy (br_f (by decide) (br_f hxy (yw_known hy hm he ?_))))))
            rw [hby]
            exact br_t rfl ⟨rfl, J⟩
          | true =>
            refine br_f (by decide) (xw_knows hx (by omega) ?_)
            cases hbx : bt (kn x) e with
            | true =>
              refine br_f (by decide) (yr_t hx (br_f (by decide) (yr_t hy (br_f (by decide) (br_f hxy (yw_known hy hm he ?_))))))
              rw [hby]
              refine br_f (by decide) (yw_known hx hm he ?_)
              rw [hbx]
              exact br_f (by decide) ⟨rfl, J⟩
            | false =>
              refine br_t rfl ⟨hve, hv, ?_⟩
              by_cases hn : (nd (nI e).toNatClampNeg) &&& ((kn (nI x).toNatClampNeg) ^^^ (-1)) = 0
              · obtain ⟨kn1, cl1, c1, j1, j2, j3⟩ := vw_take (e := e) (nd := nd) hx he hG hH
                refine br_t hn (j2 _ (yr_t hx (br_f (by decide) (yr_t hy (br_f (by decide) (br_f hxy (yw_known hy hm he ?_)))))))
                rw [hby]
                refine br_f (by decide) (yw_known hx hm he ?_)
                rw [hbx]
                refine br_t rfl ⟨hve, hv, br_t hn (j3 _ ⟨rfl, ?_⟩)⟩
                exact ⟨m, kn1, cl1, nd, mk, sx, tx, dl, od, sy, lk, ty, t, w, c1, pr, Q, L, rfl, rfl, hG, j1⟩
              · refine br_f hn (yr_t hx (br_f (by decide) (yr_t hy (br_f (by decide) (br_f hxy (yw_known hy hm he ?_))))))
                rw [hby]
                refine br_f (by decide) (yw_known hx hm he ?_)
                rw [hbx]
                exact br_t rfl ⟨hve, hv, br_f hn ⟨rfl, J⟩⟩
end
section
/-! where a new element goes -/
def qq_nu {α : Type} (f : Nat → α) (i : Nat) (v : α) : Nat → α := fun j => if j = i then v else f j
theorem qq_nus {α : Type} {f : Nat → α} {i : Nat} {v : α} : qq_nu f i v i = v := if_pos rfl
theorem qq_nun {α : Type} {f : Nat → α} {i j : Nat} {v : α} (h : j ≠ i) : qq_nu f i v j = f j := if_neg h
theorem qq_spl (g : Nat → Bool) : ∀ R : List Nat, ∃ B C, R = B ++ C ∧ (∀ f, f ∈ B → g f = true) ∧ (∀ s C', C = s :: C' → g s = false) := by
  intro R
  induction R with
  | nil => exact ⟨[], [], rfl, fun f hf => absurd hf List.not_mem_nil, fun s C' h => by cases h⟩
  | cons a R ih =>
    cases ha : g a with
    | true =>
      obtain ⟨B, C, h1, h2, h3⟩ := ih
      refine ⟨a :: B, C, by rw [h1]; rfl, fun f hf => ?_, h3⟩
      rcases List.mem_cons.mp hf with h | h
      · rw [h]; exact ha
      · exact h2 f h
    | false =>
      refine ⟨[], a :: R, rfl, fun f hf => absurd hf List.not_mem_nil, fun s C' h => ?_⟩
      cases h
      exact ha
theorem qq_pw {R : Nat → Nat → Prop} {A C : List Nat} {e : Nat} (h : (A ++ C).Pairwise R) (h1 : ∀ a, a ∈ A → R a e) (h2 : ∀ a, a ∈ C → R e a) : (A ++ e :: C).Pairwise R := by
  rw [List.pairwise_append] at h ⊢
  obtain ⟨a1, a2, a3⟩ := h
  refine ⟨a1, List.pairwise_cons.mpr ⟨h2, a2⟩, fun a ha b hb => ?_⟩
  rcases List.mem_cons.mp hb with h | h
  · rw [h]; exact h1 a ha
  · exact a3 a ha b h
theorem qq_pwc {R S : Nat → Nat → Prop} : ∀ {L : List Nat}, (∀ a b, a ∈ L → b ∈ L → R a b → S a b) → L.Pairwise R → L.Pairwise S := by
  intro L h hp
  induction hp with
  | nil => exact List.Pairwise.nil
  | cons ha _ ih => exact List.Pairwise.cons (fun b hb => h _ _ List.mem_cons_self (List.mem_cons_of_mem _ hb) (ha b hb)) (ih (fun a b ha hb => h a b (List.mem_cons_of_mem _ ha) (List.mem_cons_of_mem _ hb)))
section
variable {m x : Nat} {sy lk mk ty nd kn cl dl sx tx od : Nat → Int32} {t w c pr : Nat → Nat} {Q : Nat → List Nat} {L : List Nat}
/-- behind the parent and the greater keys, ahead of the rest -/
theorem qq_ins (hG : qq_G m sy lk ty mk dl t w pr Q L) {cd k : Nat} {A B C : List Nat} (hL : L = A ++ (B ++ C)) (hk : ∀ y, y ∈ Q cd → y < k) (hkn : ∀ f, f ∈ L → 3 * t f + w f ≠ k) (hA : ∀ f, f ∈ A → qq_bf (Q (f + 1)) (Q cd) = true ∨ Q (f + 1) = Q cd) (hR : ∀ f, f ∈ B ++ C → qq_bf (Q cd) (Q (f + 1)) = true) (hB : ∀ f, f ∈ B → k < 3 * t f + w f) (hC : ∀ s C', C = s :: C' → ¬ k < 3 * t s + w s) : (∀ f, f ∈ A ++ B → qq_bf (Q (f + 1)) (Q cd ++ [k]) = true) ∧ (∀ f, f ∈ C → qq_bf (Q cd ++ [k]) (Q (f + 1)) = true) := by
  obtain ⟨hm, hF, hU, hD, hP, hPm⟩ := hG
  have hmem : ∀ f, f ∈ L → f < m ∧ ¬ sy f < 0 := fun f hf => by
    have h := (qq_mem hPm).mp hf
    exact ⟨h.1, qq_el_t.mp h.2⟩
  have inA : ∀ f, f ∈ A → qq_bf (Q (f + 1)) (Q cd ++ [k]) = true := by
    intro f hf
    rcases hA f hf with h | h
    · exact qq_bf_tr _ _ _ h (qq_bf_ap _ _ _)
    · rw [h]
      exact qq_bf_ap _ _ _
  rw [hL, List.pairwise_append, List.pairwise_append] at hP
  obtain ⟨p1, ⟨p2, p3, p4⟩, p5⟩ := hP
  have inB : ∀ n f, f < n → f ∈ B → qq_bf (Q (f + 1)) (Q cd ++ [k]) = true := by
    intro n
    induction n with
    | zero => intro f hf; cases hf
    | succ n ih =>
      intro f hfn hf
      have hfL : f ∈ L := by rw [hL]; exact List.mem_append_right _ (List.mem_append_left _ hf)
      obtain ⟨hfm, hfe⟩ := hmem f hfL
      obtain ⟨f1, f2, f3, f4, _⟩ := hF.2 f hfm hfe
      have hkf := hB f hf
      rw [f4]
      apply qq_bf_ext
      · cases hpr : pr f with
        | zero =>
          rw [hF.1]
          cases hq : Q cd with
          | nil => rfl
          | cons a b => rfl
        | succ g =>
          have hge := f3 g hpr
          have hgL : g ∈ L := (qq_mem hPm).mpr ⟨by omega, qq_el_t.mpr hge⟩
          have hgf : qq_bf (Q (g + 1)) (Q (f + 1)) = true := by
            rw [f4, hpr]
            exact qq_bf_ap _ _ _
          rw [hL] at hgL
          rcases List.mem_append.mp hgL with h | h
          · exact inA g h
          · rcases List.mem_append.mp h with h | h
            · exact ih g (by omega) h
            · have h2 := qq_bf_as (p4 f hf g h)
              rw [hgf] at h2
              cases h2
      · intro y hy
        rcases List.mem_append.mp hy with h | h
        · have := hk y h
          omega
        · rw [List.mem_singleton] at h
          omega
  constructor
  · intro f hf
    rcases List.mem_append.mp hf with h | h
    · exact inA f h
    · exact inB (f + 1) f (by omega) h
  · cases C with
    | nil => intro f hf; exact absurd hf List.not_mem_nil
    | cons s C' =>
      have hsL : s ∈ L := by rw [hL]; simp
      obtain ⟨hsm, hse⟩ := hmem s hsL
      obtain ⟨f1, f2, f3, f4, f5, f6, f7, f8, f9⟩ := hF.2 s hsm hse
      have hks : 3 * t s + w s < k := by
        have h1 := hC s C' rfl
        have h2 := hkn s hsL
        omega
      have hs : qq_bf (Q cd ++ [k]) (Q (s + 1)) = true := by
        apply qq_bf_ext
        · exact hR s (by simp)
        · intro y hy
          rw [f4] at hy
          rcases List.mem_append.mp hy with h | h
          · have := f9 y h
            omega
          · rw [List.mem_singleton] at h
            omega
      intro f hf
      rcases List.mem_cons.mp hf with h | h
      · rw [h]; exact hs
      · rw [List.pairwise_cons] at p3
        exact qq_bf_tr _ _ _ hs (p3.1 f h)
/-! the class's walk to the spot, and the shift -/
theorem xw_gs {post : Int32 → Prop} {u1 u2 : Int32} {T M : Nat → Int32} {a b ta tb wa wb : Nat} (ha : a < 30) (hb : b < 30) (h1 : T a = nI ta) (h2 : T b = nI tb) (h3 : M a = nI wa) (h4 : M b = nI wb) (h5 : wa < 3) (h6 : wb < 3) (h7 : ta < 100) (h8 : tb < 100) (h : post (qq_b (decide (3 * tb + wb < 3 * ta + wa)))) : wpX_hasGreaterStamp post (u1, u2, kn, cl, nd, sx, T, M, dl, od) (nI a) (nI b) := by
  unfold wpX_hasGreaterStamp
  dsimp only
  have va : vp_in (nI a) 30 := vp_in_nI ha (by decide)
  have vb : vp_in (nI b) 30 := vp_in_nI hb (by decide)
  rw [nI_clamp (show a < 2 ^ 31 by omega), nI_clamp (show b < 2 ^ 31 by omega), h1, h2, h3, h4]
  refine ⟨va, vb, pk_eq ta tb (fun he => ⟨va, vb, pk_le wa wb (fun hle => ?_) (fun hgt => ?_)⟩) (fun hne => ⟨va, vb, pk_le ta tb (fun hle => ?_) (fun hgt => ?_)⟩)⟩
  · rw [decide_eq_false (by omega)] at h
    exact h
  · rw [decide_eq_true (by omega)] at h
    exact h
  · rw [decide_eq_false (by omega)] at h
    exact h
  · rw [decide_eq_true (by omega)] at h
    exact h
theorem xw_sp13 {post : Int32 → Prop} {u1 : Int32} {T M : Nat → Int32} {N e te we : Nat} (hN : N ≤ 30) (he : e < 30) (h1 : T e = nI te) (h2 : M e = nI we) (h3 : we < 3) (h4 : te < 100) {C : List Nat} (hC : ∀ s C', C = s :: C' → ¬ 3 * te + we < 3 * t s + w s) : ∀ (B : List Nat) (i n : Nat), (∀ f, f ∈ B ++ C → T f = nI (t f) ∧ M f = nI (w f) ∧ w f < 3 ∧ t f < 100) → qq_at od i (B ++ C) → i + (B ++ C).length = N → B.length < n → (∀ f, f ∈ B → 3 * te + we < 3 * t f + w f) → post (nI (i + B.length)) → wX_spotBehind_13 post (nI e) u1 (nI N) kn cl nd sx T M dl od n (nI i) := by
  intro B
  induction B with
  | nil =>
    intro i n hT ho hi hn hB h
    cases n with
    | zero => cases hn
    | succ n =>
      cases C with
      | nil =>
        exact br_t (nI_le (by simp at hi; omega) (by simp at hi; omega)) h
      | cons s C' =>
        simp at hi
        refine br_f (nI_ge (by omega) (by omega)) ⟨vp_in_nI (by omega) (by decide), ?_⟩
        have hos : od i = nI s ∧ s < 30 := ho.1
        obtain ⟨g1, g2, g3, g4⟩ := hT s (by simp)
        rw [nI_clamp (by omega), hos.1]
        refine xw_gs hos.2 he g1 h1 g2 h2 g3 h3 g4 h4 ?_
        rw [decide_eq_false (hC s C' rfl)]
        exact br_t rfl h
  | cons f B ih =>
    intro i n hT ho hi hn hB h
    cases n with
    | zero => cases hn
    | succ n =>
      simp at hi
      refine br_f (nI_ge (by omega) (by omega)) ⟨vp_in_nI (by omega) (by decide), ?_⟩
      have hos : od i = nI f ∧ f < 30 := ho.1
      obtain ⟨g1, g2, g3, g4⟩ := hT f (by simp)
      rw [nI_clamp (by omega), hos.1]
      refine xw_gs hos.2 he g1 h1 g2 h2 g3 h3 g4 h4 ?_
      rw [decide_eq_true (hB f List.mem_cons_self)]
      refine br_f (by decide) (nm_r (nI_1 i) (ih (i + 1) n (fun g hg => hT g (List.mem_cons_of_mem _ hg)) ho.2 (by simp; omega) (by simp at hn; omega) (fun g hg => hB g (List.mem_cons_of_mem _ hg)) ?_))
      rw [List.length_cons] at h
      rw [show i + 1 + B.length = i + (B.length + 1) by omega]
      exact h
theorem xw_sh13 {post : SX → Prop} {u1 : Int32} {s N e : Nat} : ∀ (d n : Nat) (o : Nat → Int32), s + d < 30 → d < n → (∀ o' : Nat → Int32, (∀ j, j < s → o' j = o j) → o' s = nI e → (∀ j, s < j → j ≤ s + d → o' j = o (j - 1)) → (∀ j, s + d < j → o' j = o j) → post (u1, nI (N + 1), kn, cl, nd, sx, tx, mk, dl, o')) → wX_placeBehind_13 post (nI e) (nI s) u1 (nI N) n (nI (s + d)) kn cl nd sx tx mk dl o := by
  intro d
  induction d with
  | zero =>
    intro n o hs hn h
    cases n with
    | zero => cases hn
    | succ n =>
      refine br_t (nI_le (by omega) (by omega)) ⟨vp_in_nI (by omega) (by decide), nm_e (nm_r (nI_1 N) ?_)⟩
      rw [nI_clamp (by omega)]
      exact h _ (fun j hj => pk_un (by omega)) pk_us (fun j h1 h2 => by omega) (fun j hj => pk_un (by omega))
  | succ d ih =>
    intro n o hs hn h
    cases n with
    | zero => cases hn
    | succ n =>
      have e1 : nI (s + (d + 1)) - 1 = nI (s + d) := nI_pred (s + d)
      refine br_f (nI_ge (by omega) (by omega)) ?_
      rw [e1, nI_clamp (show s + d < 2 ^ 31 by omega), nI_clamp (show s + (d + 1) < 2 ^ 31 by omega)]
      refine ⟨vp_in_nI (by omega) (by decide), vp_in_nI (by omega) (by decide), nm_e (nm_r (pk_m1 (s + d)) (ih n _ (by omega) (by omega) (fun o' a1 a2 a3 a4 => ?_)))⟩
      refine h o' (fun j hj => ?_) a2 (fun j h1 h2 => ?_) (fun j hj => ?_)
      · rw [a1 j hj, pk_un (by omega)]
      · by_cases hj : j = s + (d + 1)
        · subst hj
          rw [a4 _ (by omega), pk_us]
          exact congrArg o (by omega)
        · rw [a3 j h1 (by omega), pk_un (by omega)]
      · rw [a4 j (by omega), pk_un (by omega)]
/-- placeBehind: the new one stands between A ++ B and C -/
theorem xw_place {post : SX → Prop} {u1 : Int32} {T M : Nat → Int32} {N e te we : Nat} {A B C : List Nat} (hN : (A ++ (B ++ C)).length = N) (hN2 : N < 30) (he : e < 30) (h1 : T e = nI te) (h2 : M e = nI we) (h3 : we < 3) (h4 : te < 100) (hT : ∀ f, f ∈ B ++ C → T f = nI (t f) ∧ M f = nI (w f) ∧ w f < 3 ∧ t f < 100) (ho : qq_at od 0 (A ++ (B ++ C))) (hB : ∀ f, f ∈ B → 3 * te + we < 3 * t f + w f) (hC : ∀ s C', C = s :: C' → ¬ 3 * te + we < 3 * t s + w s) (h : ∀ o' : Nat → Int32, qq_at o' 0 ((A ++ B) ++ e :: C) → post (u1, nI (N + 1), kn, cl, nd, sx, T, M, dl, o')) : wpX_placeBehind post (u1, nI N, kn, cl, nd, sx, T, M, dl, od) (qq_dc A.length) (nI e) := by
  have hN' := hN
  simp at hN'
  have hoA := (qq_at_app od A (B ++ C) 0).mp ho
  have walk : ∃ n13 : Nat, wX_spotBehind_13 (fun r_1 => (∃ n13 : Nat, wX_placeBehind_13 post (nI e) r_1 u1 (nI N) n13 (nI N) kn cl nd sx T M dl od)) (nI e) u1 (nI N) kn cl nd sx T M dl od n13 (nI A.length) := by
    refine ⟨B.length + 1, xw_sp13 (by omega) he h1 h2 h3 h4 hC B A.length _ hT (by rw [Nat.zero_add] at hoA; exact hoA.2) (by simp; omega) (by omega) hB ?_⟩
    refine ⟨C.length + 1, ?_⟩
    have eN : N = A.length + B.length + C.length := by omega
    have w1 := xw_sh13 (post := post) (u1 := u1) (kn := kn) (cl := cl) (nd := nd) (sx := sx) (tx := T) (mk := M) (dl := dl) (s := A.length + B.length) (N := N) (e := e) C.length (C.length + 1) od (by omega) (by omega) (fun o' a1 a2 a3 a4 => h o' ?_)
    · rw [← eN] at w1
      exact w1
    · rw [← List.append_assoc] at ho
      have hb := (qq_at_app od (A ++ B) C 0).mp ho
      refine (qq_at_app o' (A ++ B) (e :: C) 0).mpr ⟨?_, ?_⟩
      · exact qq_at_mv od o' 0 (A ++ B) 0 (fun j _ hj => a1 j (by simp at hj; omega)) hb.1
      · rw [Nat.zero_add, List.length_append]
        refine ⟨⟨a2, he⟩, ?_⟩
        have hc := hb.2
        rw [Nat.zero_add, List.length_append] at hc
        exact qq_at_mv od o' 1 C (A.length + B.length) (fun j h1 h2 => a3 (j + 1) (by omega) (by omega)) hc
  unfold wpX_placeBehind wpX_spotBehind
  dsimp only
  cases hA : A.length with
  | zero =>
    rw [hA] at walk
    exact br_t rfl walk
  | succ a =>
    rw [hA] at walk
    refine br_f (fun z => ?_) (nm_r (nI_1 a) walk)
    have z' : nI a = -1 := z
    exact nI_pos (n := a) (by omega) (by rw [z']; decide)
end
end
section
/-! a new element: the relation afterwards -/
section
variable {m x : Nat} {sy lk mk ty nd kn cl dl sx tx od : Nat → Int32} {t w c pr : Nat → Nat} {Q : Nat → List Nat} {L : List Nat}
theorem qq_newkey (hx : x < 3) (hG : qq_G m sy lk ty mk dl t w pr Q L) (hH : qq_H m kn cl sx tx od sy ty t w c L) {f : Nat} (hf : f < m) (hfe : ¬ sy f < 0) : 3 * t f + w f ≠ 3 * (c x + 1) + x := by
  intro h
  have hw := (hG.2.1.2 f hf hfe).2.2.2.2.2.2.1
  have h1 := hH.2.2.2.2.2.2 f hf hfe
  have hwx : w f = x := by omega
  rw [hwx] at h1
  have h2 := hH.2.2.2.2.1 x f hx hf hfe h1
  omega
theorem qq_putG (hx : x < 3) (hm : m < 30) (hG : qq_G m sy lk ty mk dl t w pr Q L) (hH : qq_H m kn cl sx tx od sy ty t w c L) {s : Int32} (hs : ¬ s < 0) {cd : Nat} (hcm : cd ≤ m) (hcd : ∀ q, cd = q + 1 → ¬ sy q < 0) (hk : ∀ y, y ∈ Q cd → y < 3 * (c x + 1) + x) {A C : List Nat} (hL : L = A ++ C) (hA : ∀ f, f ∈ A → qq_bf (Q (f + 1)) (Q cd ++ [3 * (c x + 1) + x]) = true) (hC : ∀ f, f ∈ C → qq_bf (Q cd ++ [3 * (c x + 1) + x]) (Q (f + 1)) = true) : qq_G (m + 1) (upd sy m s) (upd lk m (qq_dc cd)) (upd ty m (nI (c x + 1))) (upd mk m (nI x)) dl (qq_nu t m (c x + 1)) (qq_nu w m x) (qq_nu pr m cd) (qq_nu Q (m + 1) (Q cd ++ [3 * (c x + 1) + x])) (A ++ m :: C) := by
  have hnk : ∀ f, f < m → ¬ sy f < 0 → 3 * t f + w f ≠ 3 * (c x + 1) + x := fun f h1 h2 => qq_newkey hx hG hH h1 h2
  obtain ⟨_, hF, hU, hD, hP, hPm⟩ := hG
  have hcx := (hH.2.2.2.1 x hx).2
  refine ⟨by omega, ⟨?_, ?_⟩, ?_, ?_, ?_, ?_⟩
  · rw [qq_nun (by omega)]
    exact hF.1
  · intro e he hee
    by_cases hem : e = m
    · subst hem
      rw [pk_us, pk_us, pk_us, qq_nus, qq_nus, qq_nus, qq_nus, qq_nun (by omega)]
      refine ⟨rfl, hcm, fun q hq => ?_, rfl, rfl, rfl, hx, by omega, hk⟩
      rw [pk_un (by omega)]
      exact hcd q hq
    · rw [pk_un hem] at hee
      obtain ⟨f1, f2, f3, f4, f5, f6, f7, f8, f9⟩ := hF.2 e (by omega) hee
      rw [pk_un hem, pk_un hem, pk_un hem, qq_nun hem, qq_nun hem, qq_nun hem, qq_nun (by omega), qq_nun (by omega)]
      refine ⟨f1, f2, fun q hq => ?_, f4, f5, f6, f7, by omega, f9⟩
      rw [pk_un (by omega)]
      exact f3 q hq
  · intro e f he hf hee hfe h
    by_cases hem : e = m
    · by_cases hfm : f = m
      · rw [hem, hfm]
      · subst hem
        rw [pk_un hfm] at hfe
        rw [qq_nus, qq_nus, qq_nun hfm, qq_nun hfm] at h
        exact absurd h.symm (hnk f (by omega) hfe)
    · rw [pk_un hem] at hee
      by_cases hfm : f = m
      · subst hfm
        rw [qq_nus, qq_nus, qq_nun hem, qq_nun hem] at h
        exact absurd h (hnk e (by omega) hee)
      · rw [pk_un hfm] at hfe
        rw [qq_nun hem, qq_nun hem, qq_nun hfm, qq_nun hfm] at h
        exact hU e f (by omega) (by omega) hee hfe h
  · intro e d he hd
    rw [hD e d he hd]
    by_cases hdm : d = m
    · subst hdm
      rw [pk_us]
      constructor
      · intro h; exact absurd h.1 (Nat.lt_irrefl _)
      · intro h; exact absurd h.2.1 hs
    · rw [pk_un hdm, pk_un hdm]
      constructor
      · intro h; exact ⟨by omega, h.2⟩
      · intro h; exact ⟨by omega, h.2⟩
  · have hlt : ∀ f, f ∈ A ++ C → f + 1 ≠ m + 1 := by
      intro f hf
      rw [← hL] at hf
      have := ((qq_mem hPm).mp hf).1
      omega
    apply qq_pw
    · rw [hL] at hP
      refine qq_pwc (fun a b ha hb h => ?_) hP
      rw [qq_nun (hlt a ha), qq_nun (hlt b hb)]
      exact h
    · intro a ha
      rw [qq_nun (hlt a (List.mem_append_left _ ha)), qq_nus]
      exact hA a ha
    · intro a ha
      rw [qq_nun (hlt a (List.mem_append_right _ ha)), qq_nus]
      exact hC a ha
  · rw [List.range_succ, List.filter_append]
    have e1 : (List.range m).filter (qq_el (upd sy m s)) = (List.range m).filter (qq_el sy) := by
      apply List.filter_congr
      intro e he
      rw [List.mem_range] at he
      unfold qq_el
      rw [pk_un (by omega)]
    have e2 : [m].filter (qq_el (upd sy m s)) = [m] := by
      rw [List.filter_cons_of_pos]
      · rfl
      · rw [qq_el_t, pk_us]
        exact hs
    rw [e1, e2]
    rw [hL] at hPm
    exact List.perm_middle.trans ((List.Perm.cons m hPm).trans (List.perm_append_singleton m _).symm)
theorem qq_putH (hx : x < 3) (hm : m < 30) (hH : qq_H m kn cl sx tx od sy ty t w c L) {s : Int32} (hs : ¬ s < 0) {od' : Nat → Int32} {L' : List Nat} (ho : qq_at od' 0 L') : qq_H (m + 1) (upd kn x (kn x ||| ((1 : Int32) <<< (nI m &&& 31)))) (upd cl x (nI (c x + 1))) (upd sx m s) (upd tx m (nI (c x + 1))) od' (upd sy m s) (upd ty m (nI (c x + 1))) (qq_nu t m (c x + 1)) (qq_nu w m x) (qq_nu c x (c x + 1)) L' := by
  obtain ⟨a1, a2, a3, a4, a5, a6, a7⟩ := hH
  have hcx := (a4 x hx).2
  refine ⟨ho, ?_, ?_, ?_, ?_, ?_, ?_⟩
  · intro e he hee
    by_cases hem : e = m
    · subst hem
      rw [pk_us, pk_us, pk_us, pk_us]
      exact ⟨rfl, rfl⟩
    · rw [pk_un hem] at hee
      rw [pk_un hem, pk_un hem, pk_un hem, pk_un hem]
      exact a2 e (by omega) hee
  · intro e he
    by_cases hem : e = m
    · subst hem
      rw [pk_us] at he
      rcases he with he | he
      · exact absurd he (by omega)
      · exact absurd he hs
    · rw [pk_un hem] at he ⊢
      refine a3 e ?_
      rcases he with he | he
      · exact Or.inl (by omega)
      · exact Or.inr he
  · intro y hy
    by_cases hyx : y = x
    · subst hyx
      rw [pk_us, qq_nus]
      exact ⟨rfl, by omega⟩
    · rw [pk_un hyx, qq_nun hyx]
      have := a4 y hy
      exact ⟨this.1, by omega⟩
  · intro y e hy he hee hb
    rw [qq_uk (by omega) (by omega), Bool.or_eq_true, Bool.and_eq_true, decide_eq_true_iff, decide_eq_true_iff] at hb
    by_cases hem : e = m
    · subst hem
      rw [qq_nus]
      rcases hb with hb | hb
      · have := a6 y e hy (by omega) hb
        omega
      · rw [hb.1, qq_nus]
        exact Nat.le_refl _
    · rw [pk_un hem] at hee
      rw [qq_nun hem]
      rcases hb with hb | hb
      · have h := a5 y e hy (by omega) hee hb
        by_cases hyx : y = x
        · subst hyx
          rw [qq_nus]
          omega
        · rw [qq_nun hyx]
          exact h
      · exact absurd hb.2 hem
  · intro y d hy hd hb
    rw [qq_uk (by omega) hd, Bool.or_eq_true, Bool.and_eq_true, decide_eq_true_iff, decide_eq_true_iff] at hb
    rcases hb with hb | hb
    · have := a6 y d hy hd hb
      omega
    · omega
  · intro e he hee
    rw [qq_uk (by omega) (by omega)]
    by_cases hem : e = m
    · subst hem
      rw [qq_nus]
      simp
    · rw [pk_un hem] at hee
      rw [qq_nun hem, a7 e (by omega) hee, Bool.true_or]
/-- behind the checks: A the entries up to the parent, cd the parent's code -/
theorem vw_put (hx : x < 3) (hm : m < 30) (hG : qq_G m sy lk ty mk dl t w pr Q L) (hH : qq_H m kn cl sx tx od sy ty t w c L) {s : Int32} (hs : ¬ s < 0) {cd : Nat} (hcm : cd ≤ m) (hcd : ∀ q, cd = q + 1 → ¬ sy q < 0) (hk : ∀ y, y ∈ Q cd → y < 3 * (c x + 1) + x) {A R : List Nat} (hL : L = A ++ R) (hA : ∀ f, f ∈ A → qq_bf (Q (f + 1)) (Q cd) = true ∨ Q (f + 1) = Q cd) (hR : ∀ f, f ∈ R → qq_bf (Q cd) (Q (f + 1)) = true) : ∃ v' : SY, (∀ post : Int32 → SX → Prop, (∀ u', i_Rel 0 u' v' → post (nI m) u') → wX_put_49 post (nI x) s (qq_dc A.length) (nI m) (nI L.length) kn cl nd sx tx mk dl od) ∧ (∀ post : Int32 → SY → Prop, post (nI m) v' → wY_put_61 post (nI x) s (qq_dc cd) (nI m) sy lk mk ty nd kn cl) := by
  obtain ⟨hcx, hcm2⟩ := hH.2.2.2.1 x hx
  have hv : vp_in (nI x) 3 := vp_in_nI hx (by decide)
  have hve : vp_in (nI m) 30 := vp_in_nI hm (by decide)
  have ex : (nI x).toNatClampNeg = x := nI_clamp (by omega)
  have ee : (nI m).toNatClampNeg = m := nI_clamp (by omega)
  have hcl : upd cl x (cl x + 1) = upd cl x (nI (c x + 1)) := by rw [hcx, nI_1]
  obtain ⟨B, C, hBC, hB, hC⟩ := qq_spl (fun f => decide (3 * (c x + 1) + x < 3 * t f + w f)) R
  subst hBC
  have hmem : ∀ f, f ∈ L → f < m ∧ ¬ sy f < 0 := fun f hf => by
    have h := (qq_mem hG.2.2.2.2.2).mp hf
    exact ⟨h.1, qq_el_t.mp h.2⟩
  have hB' : ∀ f, f ∈ B → 3 * (c x + 1) + x < 3 * t f + w f := fun f hf => of_decide_eq_true (hB f hf)
  have hC' : ∀ s C', C = s :: C' → ¬ 3 * (c x + 1) + x < 3 * t s + w s := fun s C' h => of_decide_eq_false (hC s C' h)
  have hins := qq_ins hG hL hk (fun f hf => qq_newkey hx hG hH (hmem f hf).1 (hmem f hf).2) hA hR hB' hC'
  have hL2 : L = (A ++ B) ++ C := by rw [hL, List.append_assoc]
  refine ⟨(nI (m + 1), upd sy m s, upd lk m (qq_dc cd), upd mk m (nI x), upd ty m (nI (c x + 1)), upd nd m (kn x), upd kn x (kn x ||| ((1 : Int32) <<< (nI m &&& 31))), upd cl x (nI (c x + 1))), fun post h => ?_, fun post h => ?_⟩
  · unfold wX_put_49 wpX_makeEvent
    dsimp only
    rw [ex, ee]
    refine br_t (nI_lt (b := 30) hm (by decide)) (nm_r (nI_1 m) ⟨hve, nm_e ⟨hv, hve, nm_e ⟨hv, hv, nm_e ⟨hv, hv, nm_r hcl ⟨hve, nm_e ⟨hv, hve, nm_r (e' := upd tx m (nI (c x + 1))) (by rw [pk_us]) ?_⟩⟩⟩⟩⟩⟩)
    have hll := qq_len hG.2.2.2.2.2
    refine xw_place (t := t) (w := w) (A := A) (B := B) (C := C) (te := c x + 1) (we := x) (by rw [hL]) (by omega) hm pk_us pk_us hx (by omega) ?_ (by rw [← hL]; exact hH.1) hB' hC' (fun o' ho' => ?_)
    · intro f hf
      have hfL : f ∈ L := by rw [hL]; exact List.mem_append_right _ hf
      obtain ⟨h1, h2⟩ := hmem f hfL
      obtain ⟨_, _, _, _, f5, f6, f7, f8, _⟩ := hG.2.1.2 f h1 h2
      rw [pk_un (by omega), pk_un (by omega), (hH.2.1 f h1 h2).2]
      exact ⟨f5, f6, f7, by omega⟩
    · refine h _ ⟨m + 1, upd kn x (kn x ||| ((1 : Int32) <<< (nI m &&& 31))), upd cl x (nI (c x + 1)), upd nd m (kn x), upd mk m (nI x), upd sx m s, upd tx m (nI (c x + 1)), dl, o', upd sy m s, upd lk m (qq_dc cd), upd ty m (nI (c x + 1)), qq_nu t m (c x + 1), qq_nu w m x, qq_nu c x (c x + 1), qq_nu pr m cd, qq_nu Q (m + 1) (Q cd ++ [3 * (c x + 1) + x]), (A ++ B) ++ m :: C, ?_, rfl, ?_, ?_⟩
      · rw [show ((A ++ B) ++ m :: C).length = L.length + 1 by rw [hL2]; simp; omega]
      · exact qq_putG hx hm hG hH hs hcm hcd hk hL2 hins.1 hins.2
      · exact qq_putH hx hm hH hs ho'
  · unfold wY_put_61 wpY_note
    dsimp only
    rw [ex, ee]
    refine ⟨hv, hv, nm_r hcl ⟨hve, nm_e ⟨hve, nm_e ⟨hve, nm_e ⟨hv, hve, nm_r (e' := upd ty m (nI (c x + 1))) (by rw [pk_us]) ⟨hv, hve, nm_e ⟨hv, hv, nm_e (nm_r (nI_1 m) ?_)⟩⟩⟩⟩⟩⟩⟩
    rw [nI_pred]
    exact h
end
end
section
/-! put, erase -/
section
variable {m x : Nat} {sy lk mk ty nd kn cl dl sx tx od : Nat → Int32} {t w c pr : Nat → Nat} {Q : Nat → List Nat} {L : List Nat}
theorem vw_put0 (hx : x < 3) (hm : m < 30) (hG : qq_G m sy lk ty mk dl t w pr Q L) (hH : qq_H m kn cl sx tx od sy ty t w c L) {s : Int32} (hs : ¬ s < 0) : ∃ v' : SY, (∀ post : Int32 → SX → Prop, (∀ u', i_Rel 0 u' v' → post (nI m) u') → wX_put_49 post (nI x) s (-1) (nI m) (nI L.length) kn cl nd sx tx mk dl od) ∧ (∀ post : Int32 → SY → Prop, post (nI m) v' → wY_put_61 post (nI x) s (-1) (nI m) sy lk mk ty nd kn cl) := by
  have hF := hG.2.1
  refine vw_put (cd := 0) (A := []) (R := L) hx hm hG hH hs (Nat.zero_le _) (fun q hq => by cases hq) ?_ rfl (fun f hf => absurd hf List.not_mem_nil) ?_
  · intro y hy
    rw [hF.1] at hy
    exact absurd hy List.not_mem_nil
  · intro f hf
    have h := (qq_mem hG.2.2.2.2.2).mp hf
    rw [hF.1, (hF.2 f h.1 (qq_el_t.mp h.2)).2.2.2.1]
    cases hq : Q (pr f) with
    | nil => rfl
    | cons a b => rfl
theorem vw_put1 (hx : x < 3) (hm : m < 30) (hG : qq_G m sy lk ty mk dl t w pr Q L) (hH : qq_H m kn cl sx tx od sy ty t w c L) {s : Int32} (hs : ¬ s < 0) {A B : List Nat} {q : Nat} (hL : L = A ++ q :: B) (hq : qq_sh kn dl x q = true) : ∃ v' : SY, (∀ post : Int32 → SX → Prop, (∀ u', i_Rel 0 u' v' → post (nI m) u') → wX_put_49 post (nI x) s (nI A.length) (nI m) (nI L.length) kn cl nd sx tx mk dl od) ∧ (∀ post : Int32 → SY → Prop, post (nI m) v' → wY_put_61 post (nI x) s (nI q) (nI m) sy lk mk ty nd kn cl) := by
  have hF := hG.2.1
  have hqL := (qq_mem hG.2.2.2.2.2).mp (show q ∈ L by rw [hL]; simp)
  have hqe := qq_el_t.mp hqL.2
  obtain ⟨f1, f2, f3, f4, f5, f6, f7, f8, f9⟩ := hF.2 q hqL.1 hqe
  have hkq : bt (kn x) q = true := by
    unfold qq_sh at hq
    rw [Bool.and_eq_true] at hq
    exact hq.1
  have htq := hH.2.2.2.2.1 x q hx hqL.1 hqe hkq
  have hP := hG.2.2.2.2.1
  rw [hL, List.pairwise_append, List.pairwise_cons] at hP
  obtain ⟨p1, ⟨p2, p3⟩, p4⟩ := hP
  have h := vw_put (cd := q + 1) (A := A ++ [q]) (R := B) (nd := nd) hx hm hG hH hs (by omega) (fun q' hq' => by
    have e : q' = q := by omega
    rw [e]
    exact hqe) ?_ (by rw [hL]; simp) ?_ p2
  · rw [List.length_append] at h
    exact h
  · intro y hy
    rw [f4] at hy
    rcases List.mem_append.mp hy with h | h
    · have := f9 y h
      omega
    · rw [List.mem_singleton] at h
      omega
  · intro f hf
    rcases List.mem_append.mp hf with h | h
    · exact Or.inl (p4 f h q List.mem_cons_self)
    · rw [List.mem_singleton] at h
      rw [h]
      exact Or.inr rfl
end
theorem i_vc_put {k : Nat} {u : SX} {v : SY} (I : i_Rel k u v) (hk : k + 4 ≤ 2048) (v1 : Int32) (v2 : Int32) (v3 : Int32) : wpX_put (fun r u' => wpY_put (fun r' v' => r' = r ∧ i_Rel (k + 4) u' v') v v1 v2 v3) u v1 v2 v3 := by
  have J := i_up I
  obtain ⟨m, kn, cl, nd, mk, sx, tx, dl, od, sy, lk, ty, t, w, c, pr, Q, L, rfl, rfl, hG, hH⟩ := I
  have hm := hG.1
  have hl := qq_l30 hG
  unfold wpX_put wpY_put
  dsimp only
  rcases qq_rep v1 with h | ⟨x, hx, rfl⟩
  · exact xr_f h (br_t rfl (yr_f h (br_t rfl ⟨rfl, J⟩)))
  · rcases pk_ix v3 (n := 26) (by decide) with h | h | ⟨s, hs, rfl⟩
    · exact xr_t hx (br_f (by decide) (br_t h (yr_t hx (br_f (by decide) (br_t h ⟨rfl, J⟩)))))
    · have h0 : ¬ v3 < 0 := fun z => nI_pos (n := 26) (by decide) (Int32.lt_of_le_of_lt h z)
      exact xr_t hx (br_f (by decide) (br_f h0 (br_t h (yr_t hx (br_f (by decide) (br_f h0 (br_t (Int32.lt_of_lt_of_le (by decide) h) ⟨rfl, J⟩)))))))
    · have s0 : ¬ nI s < 0 := nI_pos (by omega)
      have s1 : ¬ (26 : Int32) ≤ nI s := nI_ge (b := 26) hs (by decide)
      have s2 : ¬ (25 : Int32) < nI s := nI_nlt (a := 25) (by omega) (by decide)
      refine xr_t hx (br_f (by decide) (br_f s0 (br_f s1 ?_)))
      have hc := List.countP_le_length (p := qq_sh kn dl x) (l := L)
      by_cases hp : v2 < 0
      · exact br_f (Int32.not_le.mpr hp) (yr_t hx (br_f (by decide) (br_f s0 (br_f s2 (br_t hp ⟨rfl, J⟩)))))
      · refine br_t (Int32.not_lt.mp hp) ?_
        obtain ⟨j, hj, rfl⟩ := nI_of hp
        cases j with
        | zero =>
          refine br_t (by decide) ?_
          by_cases hm30 : m < 30
          · obtain ⟨v', a1, a2⟩ := vw_put0 (nd := nd) hx hm30 hG hH s0
            refine a1 _ (fun u' hR => ?_)
            exact yr_t hx (br_f (by decide) (br_f s0 (br_f s2 (br_f hp (yw_len hx hG (br_t (nI_le (Nat.zero_le _) (by omega)) (br_t (nI_lt (b := 30) hm30 (by decide)) (br_t rfl (a2 _ ⟨rfl, hR⟩)))))))))
          · have hm31 : ¬ nI m < 30 := nI_nlt (b := 30) (by omega) (by omega)
            exact br_f hm31 (yr_t hx (br_f (by decide) (br_f s0 (br_f s2 (br_f hp (yw_len hx hG (br_t (nI_le (Nat.zero_le _) (by omega)) (br_f hm31 ⟨rfl, J⟩))))))))
        | succ j =>
          have e1 : nI (j + 1) - 1 = nI j := nI_pred j
          rw [e1]
          refine br_f (nI_nle (by omega) hj) (xw_ix hx hl hH.1 ?_)
          rcases qq_found (qq_sh kn dl x) L (nI j) with ⟨A, q, B, h1, h2, h3⟩ | hno
          · have hlt := qq_lt h1 h2
            have hAl : A.length < 30 := by
              have := congrArg List.length h1
              simp at this
              omega
            have hle : nI (j + 1) ≤ nI (L.countP (qq_sh kn dl x)) := by
              refine nI_le ?_ (by omega)
              rw [nI_eq (by omega) (by omega)] at h3
              omega
            rw [h1, qq_ix_f _ _ _ _ h2 A 0 0 (by omega) (by rw [Nat.zero_add]; exact h3), Nat.zero_add, ← h1]
            refine br_f (fun z => nI_pos (n := A.length) (by omega) (by rw [z]; decide)) ?_
            by_cases hm30 : m < 30
            · obtain ⟨v', a1, a2⟩ := vw_put1 (nd := nd) hx hm30 hG hH s0 h1 h2
              refine a1 _ (fun u' hR => ?_)
              exact yr_t hx (br_f (by decide) (br_f s0 (br_f s2 (br_f hp (yw_len hx hG (br_t hle (br_t (nI_lt (b := 30) hm30 (by decide)) (br_f (nI_ne0 (by omega) hj) (yw_el_f hx hG h1 h2 h3 (a2 _ ⟨rfl, hR⟩))))))))))
            · have hm31 : ¬ nI m < 30 := nI_nlt (b := 30) (by omega) (by omega)
              exact br_f hm31 (yr_t hx (br_f (by decide) (br_f s0 (br_f s2 (br_f hp (yw_len hx hG (br_t hle (br_f hm31 ⟨rfl, J⟩))))))))
          · have hnl : ¬ nI (j + 1) ≤ nI (L.countP (qq_sh kn dl x)) := by
              refine nI_ge ?_ hj
              apply Nat.lt_succ_of_le
              apply Nat.le_of_not_lt
              intro hlt
              obtain ⟨A, e, B, h1, h2, h3⟩ := qq_ex (qq_sh kn dl x) L j hlt
              exact hno A e B h1 h2 (by rw [h3])
            rw [qq_ix_n _ _ L 0 0 (fun A e B h1 h2 => by rw [Nat.zero_add]; exact hno A e B h1 h2)]
            exact br_t rfl (yr_t hx (br_f (by decide) (br_f s0 (br_f s2 (br_f hp (yw_len hx hG (br_f hnl ⟨rfl, J⟩)))))))
section
variable {m x : Nat} {sy lk mk ty nd kn cl dl sx tx od : Nat → Int32} {t w c pr : Nat → Nat} {Q : Nat → List Nat} {L : List Nat}
theorem qq_erG (hm : m < 30) (hG : qq_G m sy lk ty mk dl t w pr Q L) {q : Nat} (hq : q < m) {r z : Int32} : qq_G (m + 1) (upd sy m (-1)) (upd lk m (nI q)) (upd ty m r) (upd mk m z) (upd dl q (dl q ||| ((1 : Int32) <<< (nI m &&& 31)))) t w pr Q L := by
  obtain ⟨_, hF, hU, hD, hP, hPm⟩ := hG
  have hne : ∀ e, ¬ upd sy m (-1) e < 0 → e ≠ m := by
    intro e he hem
    subst hem
    rw [pk_us] at he
    exact he (by decide)
  refine ⟨by omega, ⟨hF.1, ?_⟩, ?_, ?_, hP, ?_⟩
  · intro e he hee
    have hem := hne e hee
    rw [pk_un hem] at hee
    obtain ⟨f1, f2, f3, f4, f5, f6, f7, f8, f9⟩ := hF.2 e (by omega) hee
    rw [pk_un hem, pk_un hem, pk_un hem]
    refine ⟨f1, f2, fun q hq => ?_, f4, f5, f6, f7, by omega, f9⟩
    rw [pk_un (by omega)]
    exact f3 q hq
  · intro e f he hf hee hfe h
    have hem := hne e hee
    have hfm := hne f hfe
    rw [pk_un hem] at hee
    rw [pk_un hfm] at hfe
    exact hU e f (by omega) (by omega) hee hfe h
  · intro e d he hd
    rw [qq_uk (by omega) hd, Bool.or_eq_true, Bool.and_eq_true, decide_eq_true_iff, decide_eq_true_iff, hD e d he hd]
    by_cases hdm : d = m
    · subst hdm
      rw [pk_us, pk_us, nI_eq (by omega) (by omega)]
      constructor
      · rintro (h | h)
        · exact absurd h.1 (Nat.lt_irrefl _)
        · exact ⟨by omega, by decide, h.1.symm⟩
      · intro h
        exact Or.inr ⟨h.2.2.symm, rfl⟩
    · rw [pk_un hdm, pk_un hdm]
      constructor
      · rintro (h | h)
        · exact ⟨by omega, h.2⟩
        · exact absurd h.2 hdm
      · intro h
        exact Or.inl ⟨by omega, h.2⟩
  · rw [List.range_succ, List.filter_append]
    have e1 : (List.range m).filter (qq_el (upd sy m (-1))) = (List.range m).filter (qq_el sy) := by
      apply List.filter_congr
      intro e he
      rw [List.mem_range] at he
      unfold qq_el
      rw [pk_un (by omega)]
    have e2 : [m].filter (qq_el (upd sy m (-1))) = [] := by
      rw [List.filter_cons_of_neg]
      · rfl
      · rw [qq_el_t, pk_us]
        decide
    rw [e1, e2, List.append_nil]
    exact hPm
theorem qq_erH (hx : x < 3) (hm : m < 30) (hH : qq_H m kn cl sx tx od sy ty t w c L) {r : Int32} : qq_H (m + 1) (upd kn x (kn x ||| ((1 : Int32) <<< (nI m &&& 31)))) cl sx tx od (upd sy m (-1)) (upd ty m r) t w c L := by
  obtain ⟨a1, a2, a3, a4, a5, a6, a7⟩ := hH
  have hne : ∀ e, ¬ upd sy m (-1) e < 0 → e ≠ m := by
    intro e he hem
    subst hem
    rw [pk_us] at he
    exact he (by decide)
  refine ⟨a1, ?_, ?_, ?_, ?_, ?_, ?_⟩
  · intro e he hee
    have hem := hne e hee
    rw [pk_un hem] at hee
    rw [pk_un hem, pk_un hem]
    exact a2 e (by omega) hee
  · intro e he
    by_cases hem : e = m
    · exact a3 e (Or.inl (by omega))
    · rw [pk_un hem] at he
      refine a3 e ?_
      rcases he with he | he
      · exact Or.inl (by omega)
      · exact Or.inr he
  · intro y hy
    have := a4 y hy
    exact ⟨this.1, by omega⟩
  · intro y e hy he hee hb
    have hem := hne e hee
    rw [pk_un hem] at hee
    rw [qq_uk (by omega) (by omega), Bool.or_eq_true, Bool.and_eq_true, decide_eq_true_iff, decide_eq_true_iff] at hb
    rcases hb with hb | hb
    · exact a5 y e hy (by omega) hee hb
    · exact absurd hb.2 hem
  · intro y d hy hd hb
    rw [qq_uk (by omega) hd, Bool.or_eq_true, Bool.and_eq_true, decide_eq_true_iff, decide_eq_true_iff] at hb
    rcases hb with hb | hb
    · have := a6 y d hy hd hb
      omega
    · omega
  · intro e he hee
    have hem := hne e hee
    rw [pk_un hem] at hee
    rw [qq_uk (by omega) (by omega), a7 e (by omega) hee, Bool.true_or]
end
theorem i_vc_erase {k : Nat} {u : SX} {v : SY} (I : i_Rel k u v) (hk : k + 4 ≤ 2048) (v1 : Int32) (v2 : Int32) : wpX_erase (fun r u' => wpY_erase (fun r' v' => r' = r ∧ i_Rel (k + 4) u' v') v v1 v2) u v1 v2 := by
  have J := i_up I
  obtain ⟨m, kn, cl, nd, mk, sx, tx, dl, od, sy, lk, ty, t, w, c, pr, Q, L, rfl, rfl, hG, hH⟩ := I
  have hm := hG.1
  have hl := qq_l30 hG
  unfold wpX_erase wpY_erase
  dsimp only
  rcases qq_rep v1 with h | ⟨x, hx, rfl⟩
  · exact xr_f h (br_t rfl (yr_f h (br_t rfl ⟨rfl, J⟩)))
  · refine xr_t hx (br_f (by decide) (xw_ix hx hl hH.1 ?_))
    have hc := List.countP_le_length (p := qq_sh kn dl x) (l := L)
    rcases qq_found (qq_sh kn dl x) L v2 with ⟨A, q, B, h1, h2, h3⟩ | hno
    · have hlt := qq_lt h1 h2
      have hAl : A.length < 30 := by
        have := congrArg List.length h1
        simp at this
        omega
      have hAc := List.countP_le_length (p := qq_sh kn dl x) (l := A)
      have hqL := (qq_mem hG.2.2.2.2.2).mp (show q ∈ L by rw [h1]; simp)
      have hoq := hH.1
      rw [h1] at hoq
      obtain ⟨o1, o2⟩ := qq_at_mid hoq
      have hp : ¬ v2 < 0 := by rw [← h3]; exact nI_pos (by omega)
      have hle : v2 < nI (L.countP (qq_sh kn dl x)) := by rw [← h3]; exact nI_lt hlt (by omega)
      rw [h1, qq_ix_f _ _ _ _ h2 A 0 0 (by omega) (by rw [Nat.zero_add]; exact h3), Nat.zero_add, ← h1]
      refine br_f (fun z => nI_pos (n := A.length) (by omega) (by rw [z]; decide)) ?_
      by_cases hm30 : m < 30
      · have hm31 : nI m < 30 := nI_lt (b := 30) hm30 (by decide)
        have hv : vp_in (nI x) 3 := vp_in_nI hx (by decide)
        have hve : vp_in (nI m) 30 := vp_in_nI hm30 (by decide)
        have hva : vp_in (nI A.length) 30 := vp_in_nI hAl (by decide)
        have hvq : vp_in (nI q) 30 := vp_in_nI o2 (by decide)
        have ex : (nI x).toNatClampNeg = x := nI_clamp (by omega)
        have ee : (nI m).toNatClampNeg = m := nI_clamp (by omega)
        refine br_t hm31 ?_
        unfold wpX_makeEvent
        dsimp only
        rw [ex, ee, nI_clamp (show A.length < 2 ^ 31 by omega), o1, nI_clamp (show q < 2 ^ 31 by omega)]
        refine nm_r (nI_1 m) ⟨hve, nm_e ⟨hv, hve, nm_e ⟨hv, hv, nm_e ⟨hva, hvq, hvq, nm_e ?_⟩⟩⟩⟩
        refine yr_t hx (br_f (by decide) (br_f hp (yw_len hx hG (br_t hle (br_t hm31 (yw_el_f hx hG h1 h2 h3 ?_))))))
        unfold wpY_note
        dsimp only
        rw [ex, ee]
        refine ⟨hve, nm_e ⟨hve, nm_e ⟨hve, nm_e ⟨hv, hve, nm_e ⟨hv, hve, nm_e ⟨hv, hv, nm_e (nm_r (nI_1 m) ?_)⟩⟩⟩⟩⟩⟩
        refine ⟨nI_pred m, ?_⟩
        exact ⟨m + 1, _, _, _, _, _, _, _, _, _, _, _, t, w, c, pr, Q, L, rfl, rfl, qq_erG hm30 hG hqL.1, qq_erH hx hm30 hH⟩
      · have hm31 : ¬ nI m < 30 := nI_nlt (b := 30) (by omega) (by omega)
        exact br_f hm31 (yr_t hx (br_f (by decide) (br_f hp (yw_len hx hG (br_t hle (br_f hm31 ⟨rfl, J⟩))))))
    · rw [qq_ix_n _ _ L 0 0 (fun A e B h1 h2 => by rw [Nat.zero_add]; exact hno A e B h1 h2)]
      refine br_t rfl (yr_t hx (br_f (by decide) ?_))
      by_cases hp : v2 < 0
      · exact br_t hp ⟨rfl, J⟩
      · obtain ⟨j, hj, rfl⟩ := nI_of hp
        have hnl : ¬ nI j < nI (L.countP (qq_sh kn dl x)) := by
          refine nI_nlt ?_ hj
          apply Nat.le_of_not_lt
          intro hlt
          obtain ⟨A, e, B, h1, h2, h3⟩ := qq_ex (qq_sh kn dl x) L j hlt
          exact hno A e B h1 h2 (by rw [h3])
        exact br_f hp (yw_len hx hG (br_f hnl ⟨rfl, J⟩))
end
