section
/-! rows of kit/rows, pasted -/
theorem pk_us {f : Nat → Int32} {k : Nat} {x : Int32} : upd f k x k = x := if_pos rfl
theorem pk_un {f : Nat → Int32} {k j : Nat} {x : Int32} (h : j ≠ k) : upd f k x j = f j := if_neg h
theorem pk_sub {a b : Nat} (h : b ≤ a) : nI a - nI b = nI (a - b) := by
  obtain ⟨c, rfl⟩ : ∃ c, a = c + b := ⟨a - b, by omega⟩
  rw [← nI_add, Int32.add_sub_cancel, Nat.add_sub_cancel]
theorem pk_m1 (n : Nat) : nI (n + 1) + (-1) = nI n := by
  rw [← nI_1, Int32.add_assoc, show (1 : Int32) + (-1) = 0 from rfl, Int32.add_zero]
theorem pk_ix (x : Int32) {n : Nat} (hn : n < 2 ^ 31) : x < 0 ∨ nI n ≤ x ∨ ∃ j : Nat, j < n ∧ x = nI j := by
  by_cases h : x < 0
  · exact Or.inl h
  · obtain ⟨j, hj, rfl⟩ := nI_of h
    by_cases h2 : j < n
    · exact Or.inr (Or.inr ⟨j, h2, rfl⟩)
    · exact Or.inr (Or.inl (nI_le (by omega) hj))
theorem pk_le {x y : Int32} {A B : Prop} (a b : Nat) (f : a ≤ b → A) (g : b < a → B) (hx : x = nI a := by rfl) (hy : y = nI b := by rfl) (ha : a < 2 ^ 31 := by omega) (hb : b < 2 ^ 31 := by omega) : (x ≤ y → A) ∧ (¬ x ≤ y → B) := by
  subst hx hy
  rw [nI_leI ha hb]
  exact ⟨f, fun z => g (by omega)⟩
theorem pk_lt {x y : Int32} {A B : Prop} (a b : Nat) (f : a < b → A) (g : b ≤ a → B) (hx : x = nI a := by rfl) (hy : y = nI b := by rfl) (ha : a < 2 ^ 31 := by omega) (hb : b < 2 ^ 31 := by omega) : (x < y → A) ∧ (¬ x < y → B) := by
  subst hx hy
  rw [nI_ltI ha hb]
  exact ⟨f, fun z => g (by omega)⟩
theorem pk_eq {x y : Int32} {A B : Prop} (a b : Nat) (f : a = b → A) (g : a ≠ b → B) (hx : x = nI a := by rfl) (hy : y = nI b := by rfl) (ha : a < 2 ^ 31 := by omega) (hb : b < 2 ^ 31 := by omega) : (x = y → A) ∧ (¬ x = y → B) := by
  subst hx hy
  rw [nI_eq ha hb]
  exact ⟨f, g⟩
theorem pk_in {x : Int32} (n N : Nat) (h : n < N) (hx : x = nI n := by rfl) (hN : N < 2 ^ 31 := by omega) : vp_in x N := by
  subst hx
  exact vp_in_nI h hN
theorem pk_cl {x : Int32} (n : Nat) (hx : x = nI n := by rfl) (h : n < 2 ^ 31 := by omega) : x.toNatClampNeg = n := by
  subst hx
  exact nI_clamp h
def bt (x : Int32) (i : Nat) : Bool := x.toBitVec.getLsbD i
theorem b_ext {x y : Int32} (h : ∀ i, i < 32 → bt x i = bt y i) : x = y := Int32.toBitVec_inj.mp (BitVec.eq_of_getLsbD_eq (fun i hi => h i hi))
theorem b_or (x y : Int32) (i : Nat) : bt (x ||| y) i = (bt x i || bt y i) := by unfold bt; rw [Int32.toBitVec_or, BitVec.getLsbD_or]
theorem b_and (x y : Int32) (i : Nat) : bt (x &&& y) i = (bt x i && bt y i) := by unfold bt; rw [Int32.toBitVec_and, BitVec.getLsbD_and]
theorem b_xor (x y : Int32) (i : Nat) : bt (x ^^^ y) i = (bt x i ^^ bt y i) := by unfold bt; rw [Int32.toBitVec_xor, BitVec.getLsbD_xor]
theorem b_big {x : Int32} {i : Nat} (h : 32 ≤ i) : bt x i = false := BitVec.getLsbD_of_ge _ _ h
theorem b_m1 : ∀ i, i < 32 → bt (-1) i = true := by decide +kernel
theorem b_0 (i : Nat) : bt 0 i = false := BitVec.getLsbD_zero
theorem s_l : ∀ n, n < 32 → ((nI n &&& 31).toBitVec.smod 32).toNat = n := by decide +kernel
theorem b_shl (n : Nat) (hn : n < 32) (x : Int32) {i : Nat} (hi : i < 32) : bt (x <<< (nI n &&& 31)) i = (decide (n ≤ i) && bt x (i - n)) := by
  unfold bt
  rw [Int32.toBitVec_shiftLeft]
  show (x.toBitVec <<< ((nI n &&& 31).toBitVec.smod 32).toNat).getLsbD i = _
  rw [s_l n hn, BitVec.getLsbD_shiftLeft]
  rcases Nat.lt_or_ge i n with h | h
  · simp [h, Nat.not_le.mpr h]
  · simp [hi, h, Nat.not_lt.mpr h]
theorem b_sshr (n : Nat) (hn : n < 32) (x : Int32) {i : Nat} (hi : i < 32) : bt (x >>> (nI n &&& 31)) i = if n + i < 32 then bt x (n + i) else bt x 31 := by
  unfold bt
  rw [Int32.toBitVec_shiftRight]
  show (x.toBitVec.sshiftRight ((nI n &&& 31).toBitVec.smod 32).toNat).getLsbD i = _
  rw [s_l n hn, BitVec.getLsbD_sshiftRight, BitVec.msb_eq_getLsbD_last]
  simp [hi]
/-! own rows on bits -/
theorem qq_b1 : ∀ i, i < 32 → bt 1 i = decide (i = 0) := by decide +kernel
theorem qq_s1 {e i : Nat} (he : e < 32) (hi : i < 32) : bt ((1 : Int32) <<< (nI e &&& 31)) i = decide (i = e) := by
  rw [b_shl e he 1 hi, qq_b1 (i - e) (by omega)]
  by_cases h : i = e
  · subst h; simp
  · by_cases h2 : e ≤ i
    · have h3 : ¬ i - e = 0 := by omega
      simp [h, h3]
    · simp [h, h2]
theorem qq_or {k : Int32} {e i : Nat} (he : e < 32) (hi : i < 32) : bt (k ||| ((1 : Int32) <<< (nI e &&& 31))) i = (bt k i || decide (i = e)) := by
  rw [b_or, qq_s1 he hi]
theorem qq_x {k : Int32} {e : Nat} (he : e < 32) : (k &&& ((1 : Int32) <<< (nI e &&& 31))) = 0 ↔ bt k e = false := by
  constructor
  · intro h
    have h2 : bt (k &&& ((1 : Int32) <<< (nI e &&& 31))) e = bt 0 e := by rw [h]
    rw [b_and, qq_s1 he he, b_0] at h2
    simpa using h2
  · intro h
    apply b_ext
    intro i hi
    rw [b_and, qq_s1 he hi, b_0]
    by_cases h3 : i = e
    · subst h3; simp [h]
    · simp [h3]
theorem qq_y {k : Int32} {e : Nat} (he : e < 32) : ((k >>> (nI e &&& 31)) &&& 1) = 1 ↔ bt k e = true := by
  constructor
  · intro h
    have h2 : bt ((k >>> (nI e &&& 31)) &&& 1) 0 = bt 1 0 := by rw [h]
    rw [b_and, b_sshr e he k (by decide), if_pos (by omega), qq_b1 0 (by decide)] at h2
    simpa using h2
  · intro h
    apply b_ext
    intro i hi
    rw [b_and, b_sshr e he k hi, qq_b1 i hi]
    by_cases h3 : i = 0
    · subst h3
      rw [if_pos (by omega)]
      simp [h]
    · simp [h3]
theorem qq_and0 {a b : Int32} : (a &&& b) = 0 ↔ ∀ i, i < 32 → bt a i = true → bt b i = true → False := by
  constructor
  · intro h i hi ha hb
    have h2 : bt (a &&& b) i = bt 0 i := by rw [h]
    rw [b_and, b_0, ha, hb] at h2
    cases h2
  · intro h
    apply b_ext
    intro i hi
    rw [b_and, b_0]
    cases ha : bt a i
    · rfl
    · cases hb : bt b i
      · rfl
      · exact (h i hi ha hb).elim
end
section
/-! paths of keys and their order -/
def qq_bf : List Nat → List Nat → Bool
  | [], [] => false
  | [], _ :: _ => true
  | _ :: _, [] => false
  | x :: xs, y :: ys => decide (y < x) || (decide (x = y) && qq_bf xs ys)
theorem qq_bf_irr : ∀ a : List Nat, qq_bf a a = false := by
  intro a
  induction a with
  | nil => rfl
  | cons x xs ih => simp [qq_bf, ih]
theorem qq_bf_cons {x y : Nat} {xs ys : List Nat} : qq_bf (x :: xs) (y :: ys) = true ↔ (y < x ∨ (x = y ∧ qq_bf xs ys = true)) := by
  simp [qq_bf]
theorem qq_bf_tr : ∀ a b c : List Nat, qq_bf a b = true → qq_bf b c = true → qq_bf a c = true := by
  intro a
  induction a with
  | nil =>
    intro b c h1 h2
    cases c with
    | nil => cases b <;> cases h2
    | cons z zs => rfl
  | cons x xs ih =>
    intro b c h1 h2
    cases b with
    | nil => cases h1
    | cons y ys =>
      cases c with
      | nil => cases h2
      | cons z zs =>
        rw [qq_bf_cons] at h1 h2 ⊢
        rcases h1 with h1 | ⟨h1, h1'⟩
        · rcases h2 with h2 | ⟨h2, h2'⟩
          · exact Or.inl (by omega)
          · exact Or.inl (by omega)
        · rcases h2 with h2 | ⟨h2, h2'⟩
          · exact Or.inl (by omega)
          · exact Or.inr ⟨by omega, ih ys zs h1' h2'⟩
theorem qq_bf_as {a b : List Nat} (h : qq_bf a b = true) : qq_bf b a = false := by
  cases h2 : qq_bf b a with
  | false => rfl
  | true =>
    have h3 := qq_bf_tr a b a h h2
    rw [qq_bf_irr] at h3
    cases h3
theorem qq_bf_ap : ∀ (a : List Nat) (y : Nat) (z : List Nat), qq_bf a (a ++ y :: z) = true := by
  intro a y z
  induction a with
  | nil => rfl
  | cons x xs ih =>
    rw [List.cons_append, qq_bf_cons]
    exact Or.inr ⟨rfl, ih⟩
theorem qq_bf_ext (k : Nat) : ∀ (r n : List Nat), qq_bf r n = true → (∀ y, y ∈ n → y < k) → qq_bf (r ++ [k]) n = true := by
  intro r
  induction r with
  | nil =>
    intro n h hn
    cases n with
    | nil => cases h
    | cons y ys =>
      rw [List.nil_append, qq_bf_cons]
      exact Or.inl (hn y List.mem_cons_self)
  | cons x xs ih =>
    intro n h hn
    cases n with
    | nil => cases h
    | cons y ys =>
      rw [qq_bf_cons] at h
      rw [List.cons_append, qq_bf_cons]
      rcases h with h | ⟨h, h'⟩
      · exact Or.inl h
      · exact Or.inr ⟨h, ih ys h' (fun z hz => hn z (List.mem_cons_of_mem _ hz))⟩
theorem qq_bf_pre : ∀ (g a b : List Nat), qq_bf (g ++ a) (g ++ b) = qq_bf a b := by
  intro g a b
  induction g with
  | nil => rfl
  | cons x xs ih => simp [qq_bf, ih]
theorem qq_bf_ne {g a b : List Nat} {x y : Nat} (h : x ≠ y) : qq_bf (g ++ x :: a) (g ++ y :: b) = decide (y < x) := by
  rw [qq_bf_pre]
  simp [qq_bf, h]
theorem qq_bf_px {a b : List Nat} (h : a <+: b) (hn : a ≠ b) : qq_bf a b = true := by
  obtain ⟨c, rfl⟩ := h
  cases c with
  | nil => exact absurd (List.append_nil a).symm hn
  | cons y z => exact qq_bf_ap a y z
theorem qq_split : ∀ X Y : List Nat, X <+: Y ∨ Y <+: X ∨ ∃ g x y a b, X = g ++ x :: a ∧ Y = g ++ y :: b ∧ x ≠ y := by
  intro X
  induction X with
  | nil => intro Y; exact Or.inl (List.nil_prefix)
  | cons x xs ih =>
    intro Y
    cases Y with
    | nil => exact Or.inr (Or.inl (List.nil_prefix))
    | cons y ys =>
      by_cases h : x = y
      · subst h
        rcases ih ys with h | h | ⟨g, u, v, a, b, h1, h2, h3⟩
        · exact Or.inl ((List.prefix_cons_inj x).mpr h)
        · exact Or.inr (Or.inl ((List.prefix_cons_inj x).mpr h))
        · exact Or.inr (Or.inr ⟨x :: g, u, v, a, b, by rw [h1]; rfl, by rw [h2]; rfl, h3⟩)
      · exact Or.inr (Or.inr ⟨[], x, y, xs, ys, rfl, rfl, h⟩)
/-! the list of all elements: cuts and counts -/
theorem qq_cut (s : Nat → Bool) : ∀ (A A' : List Nat) (e e' : Nat) (B B' : List Nat), A ++ e :: B = A' ++ e' :: B' → s e = true → s e' = true → A.countP s = A'.countP s → A = A' ∧ e = e' ∧ B = B' := by
  intro A
  induction A with
  | nil =>
    intro A' e e' B B' h he he' hc
    cases A' with
    | nil => simp at h; exact ⟨rfl, h.1, h.2⟩
    | cons a as =>
      simp at h
      rw [← h.1] at hc
      simp [he] at hc
  | cons a as ih =>
    intro A' e e' B B' h he he' hc
    cases A' with
    | nil =>
      simp at h
      rw [h.1] at hc
      simp [he'] at hc
    | cons a' as' =>
      simp only [List.cons_append, List.cons.injEq] at h
      obtain ⟨h1, h2⟩ := h
      subst h1
      rw [List.countP_cons, List.countP_cons] at hc
      obtain ⟨r1, r2, r3⟩ := ih as' e e' B B' h2 he he' (by omega)
      exact ⟨by rw [r1], r2, r3⟩
theorem qq_ex (s : Nat → Bool) : ∀ (L : List Nat) (j : Nat), j < L.countP s → ∃ A e B, L = A ++ e :: B ∧ s e = true ∧ A.countP s = j := by
  intro L
  induction L with
  | nil => intro j h; simp at h
  | cons a as ih =>
    intro j h
    cases hs : s a with
    | false =>
      rw [List.countP_cons_of_neg (by simp [hs])] at h
      obtain ⟨A, e, B, h1, h2, h3⟩ := ih j h
      exact ⟨a :: A, e, B, by rw [h1]; rfl, h2, by rw [List.countP_cons_of_neg (by simp [hs])]; exact h3⟩
    | true =>
      rw [List.countP_cons_of_pos hs] at h
      cases j with
      | zero => exact ⟨[], a, as, rfl, hs, rfl⟩
      | succ j =>
        obtain ⟨A, e, B, h1, h2, h3⟩ := ih j (by omega)
        exact ⟨a :: A, e, B, by rw [h1]; rfl, h2, by rw [List.countP_cons_of_pos hs, h3]⟩
theorem qq_lt {s : Nat → Bool} {L A B : List Nat} {e : Nat} (h : L = A ++ e :: B) (he : s e = true) : A.countP s < L.countP s := by
  rw [h, List.countP_append, List.countP_cons_of_pos he]
  omega
/-- what the list o holds from i on -/
def qq_at (o : Nat → Int32) : Nat → List Nat → Prop
  | _, [] => True
  | i, e :: r => (o i = nI e ∧ e < 30) ∧ qq_at o (i + 1) r
theorem qq_at_app (o : Nat → Int32) : ∀ (A B : List Nat) (i : Nat), qq_at o i (A ++ B) ↔ (qq_at o i A ∧ qq_at o (i + A.length) B) := by
  intro A
  induction A with
  | nil => intro B i; simp [qq_at]
  | cons a as ih =>
    intro B i
    rw [List.cons_append]
    simp only [qq_at, List.length_cons]
    rw [ih B (i + 1), show i + 1 + as.length = i + (as.length + 1) by omega]
    exact and_assoc.symm
theorem qq_at_mv (o o' : Nat → Int32) (d : Nat) : ∀ (A : List Nat) (i : Nat), (∀ j, i ≤ j → j < i + A.length → o' (j + d) = o j) → qq_at o i A → qq_at o' (i + d) A := by
  intro A
  induction A with
  | nil => intro i h k; trivial
  | cons a as ih =>
    intro i h k
    refine ⟨⟨?_, k.1.2⟩, ?_⟩
    · rw [h i (by omega) (by simp)]
      exact k.1.1
    · have h2 := ih (i + 1) (fun j h1 h2 => h j (by omega) (by simp; omega)) k.2
      rw [show i + d + 1 = i + 1 + d by omega]
      exact h2
theorem qq_at_mid {o : Nat → Int32} {A B : List Nat} {e : Nat} (h : qq_at o 0 (A ++ e :: B)) : o A.length = nI e ∧ e < 30 := by
  have h2 := ((qq_at_app o A (e :: B) 0).mp h).2
  rw [Nat.zero_add] at h2
  exact h2.1
def qq_ix (s : Nat → Bool) (p : Int32) : List Nat → Nat → Nat → Int32
  | [], _, _ => -1
  | e :: r, c, i => if s e = true then (if nI c = p then nI i else qq_ix s p r (c + 1) (i + 1)) else qq_ix s p r c (i + 1)
def qq_pl (s : Nat → Bool) (p : Int32) : List Nat → Nat → Int32
  | [], _ => -1
  | e :: r, c => if s e = true then (if nI e = p then nI c else qq_pl s p r (c + 1)) else qq_pl s p r c
theorem qq_ix_f (s : Nat → Bool) (p : Int32) (e : Nat) (B : List Nat) (he : s e = true) : ∀ (A : List Nat) (c i : Nat), c + A.length < 100 → nI (c + A.countP s) = p → qq_ix s p (A ++ e :: B) c i = nI (i + A.length) := by
  intro A
  induction A with
  | nil =>
    intro c i hl h
    simp at h
    simp [qq_ix, he, h]
  | cons a as ih =>
    intro c i hl h
    rw [List.length_cons] at hl
    rw [List.cons_append]
    have hc := List.countP_le_length (p := s) (l := as)
    cases ha : s a with
    | false =>
      rw [List.countP_cons_of_neg (by simp [ha])] at h
      simp only [qq_ix, ha, Bool.false_eq_true, if_false]
      rw [ih c (i + 1) (by omega) h, List.length_cons]
      exact congrArg nI (by omega)
    | true =>
      rw [List.countP_cons_of_pos ha] at h
      have hn : ¬ nI c = p := by
        rw [← h, nI_eq (by omega) (by omega)]
        omega
      simp only [qq_ix, ha, if_true, if_neg hn]
      rw [ih (c + 1) (i + 1) (by omega) (by rw [← h]; exact congrArg nI (by omega)), List.length_cons]
      exact congrArg nI (by omega)
theorem qq_ix_n (s : Nat → Bool) (p : Int32) : ∀ (L : List Nat) (c i : Nat), (∀ A e B, L = A ++ e :: B → s e = true → ¬ nI (c + A.countP s) = p) → qq_ix s p L c i = -1 := by
  intro L
  induction L with
  | nil => intro c i h; rfl
  | cons a as ih =>
    intro c i h
    cases ha : s a with
    | false =>
      simp only [qq_ix, ha, Bool.false_eq_true, if_false]
      refine ih c (i + 1) (fun A e B h1 h2 => ?_)
      have h3 := h (a :: A) e B (by rw [h1]; rfl) h2
      rw [List.countP_cons_of_neg (by simp [ha])] at h3
      exact h3
    | true =>
      have h0 := h [] a as rfl ha
      simp at h0
      simp only [qq_ix, ha, if_true, if_neg h0]
      refine ih (c + 1) (i + 1) (fun A e B h1 h2 => ?_)
      have h3 := h (a :: A) e B (by rw [h1]; rfl) h2
      rw [List.countP_cons_of_pos ha] at h3
      rw [show c + 1 + A.countP s = c + (A.countP s + 1) by omega]
      exact h3
theorem qq_pl_f (s : Nat → Bool) (e : Nat) (B : List Nat) (he : s e = true) (hb : e < 30) : ∀ (A : List Nat) (c : Nat), (∀ a, a ∈ A → a ≠ e ∧ a < 30) → qq_pl s (nI e) (A ++ e :: B) c = nI (c + A.countP s) := by
  intro A
  induction A with
  | nil =>
    intro c h
    simp [qq_pl, he]
  | cons a as ih =>
    intro c h
    rw [List.cons_append]
    have h0 := h a List.mem_cons_self
    have ih' := fun c => ih c (fun b hb => h b (List.mem_cons_of_mem _ hb))
    cases ha : s a with
    | false =>
      simp only [qq_pl, ha, Bool.false_eq_true, if_false]
      rw [ih' c, List.countP_cons_of_neg (by simp [ha])]
    | true =>
      have hn : ¬ nI a = nI e := by
        rw [nI_eq (by omega) (by omega)]
        exact h0.1
      simp only [qq_pl, ha, if_true, if_neg hn]
      rw [ih' (c + 1), List.countP_cons_of_pos ha]
      exact congrArg nI (by omega)
theorem qq_pl_n (s : Nat → Bool) (p : Int32) : ∀ (L : List Nat) (c : Nat), (∀ e, e ∈ L → s e = true → ¬ nI e = p) → qq_pl s p L c = -1 := by
  intro L
  induction L with
  | nil => intro c h; rfl
  | cons a as ih =>
    intro c h
    have ih' := fun c => ih c (fun b hb => h b (List.mem_cons_of_mem _ hb))
    cases ha : s a with
    | false =>
      simp only [qq_pl, ha, Bool.false_eq_true, if_false]
      exact ih' c
    | true =>
      simp only [qq_pl, ha, if_true, if_neg (h a List.mem_cons_self ha)]
      exact ih' (c + 1)
/-- over the elements of range m, counted along L -/
theorem qq_perm {L : List Nat} {m : Nat} {el : Nat → Bool} (h : L.Perm ((List.range m).filter el)) (s : Nat → Bool) : (List.range m).countP (fun e => el e && s e) = L.countP s := by
  rw [h.countP_eq, List.countP_filter]
  congr 1
  funext e
  exact Bool.and_comm _ _
theorem qq_mem {L : List Nat} {m : Nat} {el : Nat → Bool} (h : L.Perm ((List.range m).filter el)) {e : Nat} : e ∈ L ↔ (e < m ∧ el e = true) := by
  rw [h.mem_iff, List.mem_filter, List.mem_range]
theorem qq_len {L : List Nat} {m : Nat} {el : Nat → Bool} (h : L.Perm ((List.range m).filter el)) : L.length ≤ m := by
  rw [h.length_eq]
  have h2 := List.length_filter_le el (List.range m)
  rw [List.length_range] at h2
  exact h2
/-- rank: how many shown ones stand before e -/
theorem qq_rank {P : Nat → List Nat} {A B : List Nat} {e : Nat} (s : Nat → Bool) (h : (A ++ e :: B).Pairwise (fun a b => qq_bf (P a) (P b) = true)) : (A ++ e :: B).countP (fun f => s f && qq_bf (P f) (P e)) = A.countP s := by
  rw [List.pairwise_append] at h
  obtain ⟨h1, h2, h3⟩ := h
  rw [List.pairwise_cons] at h2
  rw [List.countP_append, List.countP_cons_of_neg (by simp [qq_bf_irr])]
  have e1 : A.countP (fun f => s f && qq_bf (P f) (P e)) = A.countP s := by
    apply List.countP_congr
    intro f hf
    rw [h3 f hf e List.mem_cons_self, Bool.and_true]
  have e2 : B.countP (fun f => s f && qq_bf (P f) (P e)) = 0 := by
    rw [List.countP_eq_zero]
    intro f hf
    rw [qq_bf_as (h2.1 f hf), Bool.and_false]
    decide
  omega
end
section
/-! the class's reading methods against pure pictures -/
def qq_b : Bool → Int32
  | true => 1
  | false => 0
def qq_sh (kn dl : Nat → Int32) (x e : Nat) : Bool := bt (kn x) e && decide (kn x &&& dl e = 0)
theorem xr_t {post : Int32 → Prop} {u : SX} {x : Nat} (hx : x < 3) (h : post 1) : wpX_isReplica post u (nI x) := by
  unfold wpX_isReplica
  exact br_f (nI_pos (by omega)) (br_f (nI_ge (b := 3) hx (by decide)) h)
theorem xr_f {post : Int32 → Prop} {u : SX} {x : Int32} (hx : x < 0 ∨ nI 3 ≤ x) (h : post 0) : wpX_isReplica post u x := by
  unfold wpX_isReplica
  by_cases h0 : x < 0
  · exact br_t h0 h
  · rcases hx with hx | hx
    · exact absurd hx h0
    · exact br_f h0 (br_t hx h)
section
variable {post : Int32 → Prop} {fm p : Int32} {N x : Nat} {kn cl nd sx tx mk dl od : Nat → Int32}
theorem xw_knows {fp : Int32} {e : Nat} (hx : x < 3) (he : e < 32) (h : post (qq_b (bt (kn x) e))) : wpX_knows post (fm, fp, kn, cl, nd, sx, tx, mk, dl, od) (nI x) (nI e) := by
  unfold wpX_knows
  dsimp only
  refine ⟨vp_in_nI hx (by decide), ?_⟩
  rw [nI_clamp (by omega)]
  cases hb : bt (kn x) e with
  | false =>
    rw [hb] at h
    exact br_t ((qq_x he).mpr hb) h
  | true =>
    rw [hb] at h
    exact br_f (fun z => by rw [(qq_x he).mp z] at hb; cases hb) h
theorem xw_shown {fp : Int32} {e : Nat} (hx : x < 3) (he : e < 30) (h : post (qq_b (qq_sh kn dl x e))) : wpX_isShown post (fm, fp, kn, cl, nd, sx, tx, mk, dl, od) (nI x) (nI e) := by
  unfold wpX_isShown
  dsimp only
  refine xw_knows hx (by omega) ?_
  unfold qq_sh at h
  cases hb : bt (kn x) e with
  | false =>
    rw [hb] at h
    exact br_t rfl h
  | true =>
    rw [hb] at h
    refine br_f (by decide) ⟨vp_in_nI hx (by decide), vp_in_nI he (by decide), ?_⟩
    rw [nI_clamp (by omega), nI_clamp (by omega)]
    by_cases hc : kn x &&& dl e = 0
    · rw [decide_eq_true hc] at h
      exact br_t hc h
    · rw [decide_eq_false hc] at h
      exact br_f hc h
theorem xw_ix5 (hx : x < 3) (hN : N ≤ 30) : ∀ (r : List Nat) (i c n : Nat), qq_at od i r → i + r.length = N → r.length < n → post (qq_ix (qq_sh kn dl x) p r c i) → wX_indexAt_5 post (nI x) p fm (nI N) kn cl nd sx tx mk dl od n (nI c) (nI i) := by
  intro r
  induction r with
  | nil =>
    intro i c n ho hi hn h
    cases n with
    | zero => cases hn
    | succ n => exact br_t (nI_le (by simp at hi; omega) (by simp at hi; omega)) h
  | cons e r ih =>
    intro i c n ho hi hn h
    rw [List.length_cons] at hi hn
    cases n with
    | zero => cases hn
    | succ n =>
      refine br_f (nI_ge (by omega) (by omega)) ⟨vp_in_nI (by omega) (by decide), ?_⟩
      rw [nI_clamp (by omega), ho.1.1]
      refine xw_shown hx ho.1.2 ?_
      unfold qq_ix at h
      cases hs : qq_sh kn dl x e with
      | false =>
        rw [hs] at h
        exact br_t rfl (nm_r (nI_1 i) (ih (i + 1) c n ho.2 (by omega) (by omega) h))
      | true =>
        rw [hs, if_pos rfl] at h
        refine br_f (by decide) ?_
        by_cases hc : nI c = p
        · rw [if_pos hc] at h
          exact br_t hc h
        · rw [if_neg hc] at h
          exact br_f hc (nm_r (nI_1 c) (nm_r (nI_1 i) (ih (i + 1) (c + 1) n ho.2 (by omega) (by omega) h)))
theorem xw_ix {L : List Nat} (hx : x < 3) (hN : L.length ≤ 30) (ho : qq_at od 0 L) (h : post (qq_ix (qq_sh kn dl x) p L 0 0)) : wpX_indexAt post (fm, nI L.length, kn, cl, nd, sx, tx, mk, dl, od) (nI x) p := by
  unfold wpX_indexAt
  exact ⟨L.length + 1, xw_ix5 hx hN L 0 0 _ ho (by omega) (by omega) h⟩
theorem xw_len14 (hx : x < 3) (hN : N ≤ 30) : ∀ (r : List Nat) (i c n : Nat), qq_at od i r → i + r.length = N → r.length < n → post (nI (c + r.countP (qq_sh kn dl x))) → wX_length_14 post (nI x) fm (nI N) kn cl nd sx tx mk dl od n (nI c) (nI i) := by
  intro r
  induction r with
  | nil =>
    intro i c n ho hi hn h
    cases n with
    | zero => cases hn
    | succ n => exact br_t (nI_le (by simp at hi; omega) (by simp at hi; omega)) h
  | cons e r ih =>
    intro i c n ho hi hn h
    rw [List.length_cons] at hi hn
    cases n with
    | zero => cases hn
    | succ n =>
      refine br_f (nI_ge (by omega) (by omega)) ⟨vp_in_nI (by omega) (by decide), ?_⟩
      rw [nI_clamp (by omega), ho.1.1]
      refine xw_shown hx ho.1.2 ?_
      cases hs : qq_sh kn dl x e with
      | false =>
        rw [List.countP_cons_of_neg (by simp [hs])] at h
        exact br_t rfl (nm_r (nI_1 i) (ih (i + 1) c n ho.2 (by omega) (by omega) h))
      | true =>
        rw [List.countP_cons_of_pos hs, show c + (r.countP (qq_sh kn dl x) + 1) = c + 1 + r.countP (qq_sh kn dl x) by omega] at h
        exact br_f (by decide) (nm_r (nI_1 c) (nm_r (nI_1 i) (ih (i + 1) (c + 1) n ho.2 (by omega) (by omega) h)))
theorem xw_len {L : List Nat} (hx : x < 3) (hN : L.length ≤ 30) (ho : qq_at od 0 L) (h : post (nI (L.countP (qq_sh kn dl x)))) : wpX_length post (fm, nI L.length, kn, cl, nd, sx, tx, mk, dl, od) (nI x) := by
  unfold wpX_length
  dsimp only
  exact xr_t hx (br_f (by decide) ⟨L.length + 1, xw_len14 hx hN L 0 0 _ ho (by omega) (by omega) (by rw [Nat.zero_add]; exact h)⟩)
theorem xw_el14 (hx : x < 3) (hN : N ≤ 30) : ∀ (r : List Nat) (i c n : Nat), qq_at od i r → i + r.length = N → r.length < n → post (nI (c + r.countP (fun e => bt (kn x) e))) → wX_elements_14 post (nI x) fm (nI N) kn cl nd sx tx mk dl od n (nI c) (nI i) := by
  intro r
  induction r with
  | nil =>
    intro i c n ho hi hn h
    cases n with
    | zero => cases hn
    | succ n => exact br_t (nI_le (by simp at hi; omega) (by simp at hi; omega)) h
  | cons e r ih =>
    intro i c n ho hi hn h
    rw [List.length_cons] at hi hn
    have he := ho.1.2
    cases n with
    | zero => cases hn
    | succ n =>
      refine br_f (nI_ge (by omega) (by omega)) ⟨vp_in_nI (by omega) (by decide), ?_⟩
      rw [nI_clamp (by omega), ho.1.1]
      refine xw_knows hx (by omega) ?_
      cases hs : bt (kn x) e with
      | false =>
        rw [List.countP_cons_of_neg (by simp [hs])] at h
        exact br_t rfl (nm_r (nI_1 i) (ih (i + 1) c n ho.2 (by omega) (by omega) h))
      | true =>
        rw [List.countP_cons_of_pos hs, show c + (r.countP (fun e => bt (kn x) e) + 1) = c + 1 + r.countP (fun e => bt (kn x) e) by omega] at h
        exact br_f (by decide) (nm_r (nI_1 c) (nm_r (nI_1 i) (ih (i + 1) (c + 1) n ho.2 (by omega) (by omega) h)))
theorem xw_el {L : List Nat} (hx : x < 3) (hN : L.length ≤ 30) (ho : qq_at od 0 L) (h : post (nI (L.countP (fun e => bt (kn x) e)))) : wpX_elements post (fm, nI L.length, kn, cl, nd, sx, tx, mk, dl, od) (nI x) := by
  unfold wpX_elements
  dsimp only
  exact xr_t hx (br_f (by decide) ⟨L.length + 1, xw_el14 hx hN L 0 0 _ ho (by omega) (by omega) (by rw [Nat.zero_add]; exact h)⟩)
theorem xw_pl15 (hx : x < 3) (hN : N ≤ 30) : ∀ (r : List Nat) (i c n : Nat), qq_at od i r → i + r.length = N → r.length < n → post (qq_pl (qq_sh kn dl x) p r c) → wX_placeOf_15 post (nI x) p fm (nI N) kn cl nd sx tx mk dl od n (nI c) (nI i) := by
  intro r
  induction r with
  | nil =>
    intro i c n ho hi hn h
    cases n with
    | zero => cases hn
    | succ n => exact br_t (nI_le (by simp at hi; omega) (by simp at hi; omega)) h
  | cons e r ih =>
    intro i c n ho hi hn h
    rw [List.length_cons] at hi hn
    cases n with
    | zero => cases hn
    | succ n =>
      refine br_f (nI_ge (by omega) (by omega)) ⟨vp_in_nI (by omega) (by decide), ?_⟩
      rw [nI_clamp (by omega), ho.1.1]
      refine xw_shown hx ho.1.2 ?_
      unfold qq_pl at h
      cases hs : qq_sh kn dl x e with
      | false =>
        rw [hs] at h
        exact br_t rfl (nm_r (nI_1 i) (ih (i + 1) c n ho.2 (by omega) (by omega) h))
      | true =>
        rw [hs, if_pos rfl] at h
        refine br_f (by decide) ⟨vp_in_nI (by omega) (by decide), ?_⟩
        by_cases hc : nI e = p
        · rw [if_pos hc] at h
          exact br_t hc h
        · rw [if_neg hc] at h
          exact br_f hc (nm_r (nI_1 c) (nm_r (nI_1 i) (ih (i + 1) (c + 1) n ho.2 (by omega) (by omega) h)))
theorem xw_pl {L : List Nat} (hx : x < 3) (hN : L.length ≤ 30) (ho : qq_at od 0 L) (h : post (qq_pl (qq_sh kn dl x) p L 0)) : wpX_placeOf post (fm, nI L.length, kn, cl, nd, sx, tx, mk, dl, od) (nI x) p := by
  unfold wpX_placeOf
  dsimp only
  exact xr_t hx (br_f (by decide) ⟨L.length + 1, xw_pl15 hx hN L 0 0 _ ho (by omega) (by omega) h⟩)
theorem xw_at_f {L A B : List Nat} {e : Nat} (hx : x < 3) (hN : L.length ≤ 30) (ho : qq_at od 0 L) (hL : L = A ++ e :: B) (he : qq_sh kn dl x e = true) (hp : nI (A.countP (qq_sh kn dl x)) = p) (h : post (sx e)) : wpX_at post (fm, nI L.length, kn, cl, nd, sx, tx, mk, dl, od) (nI x) p := by
  unfold wpX_at
  dsimp only
  refine xr_t hx (br_f (by decide) (xw_ix hx hN ho ?_))
  have hA : A.length < 30 := by rw [hL] at hN; simp at hN; omega
  rw [hL] at ho
  obtain ⟨h1, h2⟩ := qq_at_mid ho
  rw [hL, qq_ix_f _ _ _ _ he A 0 0 (by omega) (by rw [Nat.zero_add]; exact hp), Nat.zero_add]
  refine br_f (fun z => ?_) ⟨vp_in_nI hA (by decide), ?_⟩
  · exact nI_pos (n := A.length) (by omega) (by rw [z]; decide)
  · rw [nI_clamp (by omega), h1, nI_clamp (by omega)]
    exact ⟨vp_in_nI h2 (by decide), h⟩
theorem xw_at_n {L : List Nat} (hx : x < 3) (hN : L.length ≤ 30) (ho : qq_at od 0 L) (hn : ∀ A e B, L = A ++ e :: B → qq_sh kn dl x e = true → ¬ nI (A.countP (qq_sh kn dl x)) = p) (h : post (-1)) : wpX_at post (fm, nI L.length, kn, cl, nd, sx, tx, mk, dl, od) (nI x) p := by
  unfold wpX_at
  dsimp only
  refine xr_t hx (br_f (by decide) (xw_ix hx hN ho ?_))
  rw [qq_ix_n _ _ L 0 0 (fun A e B h1 h2 => by rw [Nat.zero_add]; exact hn A e B h1 h2)]
  exact br_t rfl h
theorem xw_mb_f {L A B : List Nat} {e : Nat} (hx : x < 3) (hN : L.length ≤ 30) (ho : qq_at od 0 L) (hL : L = A ++ e :: B) (he : qq_sh kn dl x e = true) (hp : nI (A.countP (qq_sh kn dl x)) = p) (h : post (nI e)) : wpX_madeBy post (fm, nI L.length, kn, cl, nd, sx, tx, mk, dl, od) (nI x) p := by
  unfold wpX_madeBy
  dsimp only
  refine xr_t hx (br_f (by decide) (xw_ix hx hN ho ?_))
  have hA : A.length < 30 := by rw [hL] at hN; simp at hN; omega
  rw [hL] at ho
  obtain ⟨h1, h2⟩ := qq_at_mid ho
  rw [hL, qq_ix_f _ _ _ _ he A 0 0 (by omega) (by rw [Nat.zero_add]; exact hp), Nat.zero_add]
  refine br_f (fun z => ?_) ⟨vp_in_nI hA (by decide), ?_⟩
  · exact nI_pos (n := A.length) (by omega) (by rw [z]; decide)
  · rw [nI_clamp (by omega), h1]
    exact h
theorem xw_mb_n {L : List Nat} (hx : x < 3) (hN : L.length ≤ 30) (ho : qq_at od 0 L) (hn : ∀ A e B, L = A ++ e :: B → qq_sh kn dl x e = true → ¬ nI (A.countP (qq_sh kn dl x)) = p) (h : post (-1)) : wpX_madeBy post (fm, nI L.length, kn, cl, nd, sx, tx, mk, dl, od) (nI x) p := by
  unfold wpX_madeBy
  dsimp only
  refine xr_t hx (br_f (by decide) (xw_ix hx hN ho ?_))
  rw [qq_ix_n _ _ L 0 0 (fun A e B h1 h2 => by rw [Nat.zero_add]; exact hn A e B h1 h2)]
  exact br_t rfl h
end
end
