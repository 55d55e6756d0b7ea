/-! where a new element goes -/
def qq_nu {α : Type} (f : Nat → α) (i : Nat) (v : α) : Nat → α := fun j => if j = i then v else f j
theorem qq_nus {α : Type} {f : Nat → α} {i : Nat} {v : α} : qq_nu f i v i = v := if_pos rfl
theorem qq_nun {α : Type} {f : Nat → α} {i j : Nat} {v : α} (h : j ≠ i) : qq_nu f i v j = f j := if_neg h
theorem qq_spl (g : Nat → Bool) : ∀ R : List Nat, ∃ B C, R = B ++ C ∧ (∀ f, f ∈ B → g f = true) ∧ (∀ s C', C = s :: C' → g s = false) := by
  intro R
  induction R with
  | nil => exact ⟨[], [], rfl, fun f hf => absurd hf List.not_mem_nil, fun s C' h => by cases h⟩
  | cons a R ih =>
    cases ha : g a with
    | true =>
      obtain ⟨B, C, h1, h2, h3⟩ := ih
      refine ⟨a :: B, C, by rw [h1]; rfl, fun f hf => ?_, h3⟩
      rcases List.mem_cons.mp hf with h | h
      · rw [h]; exact ha
      · exact h2 f h
    | false =>
      refine ⟨[], a :: R, rfl, fun f hf => absurd hf List.not_mem_nil, fun s C' h => ?_⟩
      cases h
      exact ha
theorem qq_pw {R : Nat → Nat → Prop} {A C : List Nat} {e : Nat} (h : (A ++ C).Pairwise R) (h1 : ∀ a, a ∈ A → R a e) (h2 : ∀ a, a ∈ C → R e a) : (A ++ e :: C).Pairwise R := by
  rw [List.pairwise_append] at h ⊢
  obtain ⟨a1, a2, a3⟩ := h
  refine ⟨a1, List.pairwise_cons.mpr ⟨h2, a2⟩, fun a ha b hb => ?_⟩
  rcases List.mem_cons.mp hb with h | h
  · rw [h]; exact h1 a ha
  · exact a3 a ha b h
theorem qq_pwc {R S : Nat → Nat → Prop} : ∀ {L : List Nat}, (∀ a b, a ∈ L → b ∈ L → R a b → S a b) → L.Pairwise R → L.Pairwise S := by
  intro L h hp
  induction hp with
  | nil => exact List.Pairwise.nil
  | cons ha _ ih => exact List.Pairwise.cons (fun b hb => h _ _ List.mem_cons_self (List.mem_cons_of_mem _ hb) (ha b hb)) (ih (fun a b ha hb => h a b (List.mem_cons_of_mem _ ha) (List.mem_cons_of_mem _ hb)))
section
variable {m x : Nat} {sy lk mk ty nd kn cl dl sx tx od : Nat → Int32} {t w c pr : Nat → Nat} {Q : Nat → List Nat} {L : List Nat}
/-- behind the parent and the greater keys, ahead of the rest -/
theorem qq_ins (hG : qq_G m sy lk ty mk dl t w pr Q L) {cd k : Nat} {A B C : List Nat} (hL : L = A ++ (B ++ C)) (hk : ∀ y, y ∈ Q cd → y < k) (hkn : ∀ f, f ∈ L → 3 * t f + w f ≠ k) (hA : ∀ f, f ∈ A → qq_bf (Q (f + 1)) (Q cd) = true ∨ Q (f + 1) = Q cd) (hR : ∀ f, f ∈ B ++ C → qq_bf (Q cd) (Q (f + 1)) = true) (hB : ∀ f, f ∈ B → k < 3 * t f + w f) (hC : ∀ s C', C = s :: C' → ¬ k < 3 * t s + w s) : (∀ f, f ∈ A ++ B → qq_bf (Q (f + 1)) (Q cd ++ [k]) = true) ∧ (∀ f, f ∈ C → qq_bf (Q cd ++ [k]) (Q (f + 1)) = true) := by
  obtain ⟨hm, hF, hU, hD, hP, hPm⟩ := hG
  have hmem : ∀ f, f ∈ L → f < m ∧ ¬ sy f < 0 := fun f hf => by
    have h := (qq_mem hPm).mp hf
    exact ⟨h.1, qq_el_t.mp h.2⟩
  have inA : ∀ f, f ∈ A → qq_bf (Q (f + 1)) (Q cd ++ [k]) = true := by
    intro f hf
    rcases hA f hf with h | h
    · exact qq_bf_tr _ _ _ h (qq_bf_ap _ _ _)
    · rw [h]
      exact qq_bf_ap _ _ _
  rw [hL, List.pairwise_append, List.pairwise_append] at hP
  obtain ⟨p1, ⟨p2, p3, p4⟩, p5⟩ := hP
  have inB : ∀ n f, f < n → f ∈ B → qq_bf (Q (f + 1)) (Q cd ++ [k]) = true := by
    intro n
    induction n with
    | zero => intro f hf; cases hf
    | succ n ih =>
      intro f hfn hf
      have hfL : f ∈ L := by rw [hL]; exact List.mem_append_right _ (List.mem_append_left _ hf)
      obtain ⟨hfm, hfe⟩ := hmem f hfL
      obtain ⟨f1, f2, f3, f4, _⟩ := hF.2 f hfm hfe
      have hkf := hB f hf
      rw [f4]
      apply qq_bf_ext
      · cases hpr : pr f with
        | zero =>
          rw [hF.1]
          cases hq : Q cd with
          | nil => rfl
          | cons a b => rfl
        | succ g =>
          have hge := f3 g hpr
          have hgL : g ∈ L := (qq_mem hPm).mpr ⟨by omega, qq_el_t.mpr hge⟩
          have hgf : qq_bf (Q (g + 1)) (Q (f + 1)) = true := by
            rw [f4, hpr]
            exact qq_bf_ap _ _ _
          rw [hL] at hgL
          rcases List.mem_append.mp hgL with h | h
          · exact inA g h
          · rcases List.mem_append.mp h with h | h
            · exact ih g (by omega) h
            · have h2 := qq_bf_as (p4 f hf g h)
              rw [hgf] at h2
              cases h2
      · intro y hy
        rcases List.mem_append.mp hy with h | h
        · have := hk y h
          omega
        · rw [List.mem_singleton] at h
          omega
  constructor
  · intro f hf
    rcases List.mem_append.mp hf with h | h
    · exact inA f h
    · exact inB (f + 1) f (by omega) h
  · cases C with
    | nil => intro f hf; exact absurd hf List.not_mem_nil
    | cons s C' =>
      have hsL : s ∈ L := by rw [hL]; simp
      obtain ⟨hsm, hse⟩ := hmem s hsL
      obtain ⟨f1, f2, f3, f4, f5, f6, f7, f8, f9⟩ := hF.2 s hsm hse
      have hks : 3 * t s + w s < k := by
        have h1 := hC s C' rfl
        have h2 := hkn s hsL
        omega
      have hs : qq_bf (Q cd ++ [k]) (Q (s + 1)) = true := by
        apply qq_bf_ext
        · exact hR s (by simp)
        · intro y hy
          rw [f4] at hy
          rcases List.mem_append.mp hy with h | h
          · have := f9 y h
            omega
          · rw [List.mem_singleton] at h
            omega
      intro f hf
      rcases List.mem_cons.mp hf with h | h
      · rw [h]; exact hs
      · rw [List.pairwise_cons] at p3
        exact qq_bf_tr _ _ _ hs (p3.1 f h)
/-! the class's walk to the spot, and the shift -/
theorem xw_gs {post : Int32 → Prop} {u1 u2 : Int32} {T M : Nat → Int32} {a b ta tb wa wb : Nat} (ha : a < 30) (hb : b < 30) (h1 : T a = nI ta) (h2 : T b = nI tb) (h3 : M a = nI wa) (h4 : M b = nI wb) (h5 : wa < 3) (h6 : wb < 3) (h7 : ta < 100) (h8 : tb < 100) (h : post (qq_b (decide (3 * tb + wb < 3 * ta + wa)))) : wpX_hasGreaterStamp post (u1, u2, kn, cl, nd, sx, T, M, dl, od) (nI a) (nI b) := by
  unfold wpX_hasGreaterStamp
  dsimp only
  have va : vp_in (nI a) 30 := vp_in_nI ha (by decide)
  have vb : vp_in (nI b) 30 := vp_in_nI hb (by decide)
  rw [nI_clamp (show a < 2 ^ 31 by omega), nI_clamp (show b < 2 ^ 31 by omega), h1, h2, h3, h4]
  refine ⟨va, vb, pk_eq ta tb (fun he => ⟨va, vb, pk_le wa wb (fun hle => ?_) (fun hgt => ?_)⟩) (fun hne => ⟨va, vb, pk_le ta tb (fun hle => ?_) (fun hgt => ?_)⟩)⟩
  · rw [decide_eq_false (by omega)] at h
    exact h
  · rw [decide_eq_true (by omega)] at h
    exact h
  · rw [decide_eq_false (by omega)] at h
    exact h
  · rw [decide_eq_true (by omega)] at h
    exact h
theorem xw_sp13 {post : Int32 → Prop} {u1 : Int32} {T M : Nat → Int32} {N e te we : Nat} (hN : N ≤ 30) (he : e < 30) (h1 : T e = nI te) (h2 : M e = nI we) (h3 : we < 3) (h4 : te < 100) {C : List Nat} (hC : ∀ s C', C = s :: C' → ¬ 3 * te + we < 3 * t s + w s) : ∀ (B : List Nat) (i n : Nat), (∀ f, f ∈ B ++ C → T f = nI (t f) ∧ M f = nI (w f) ∧ w f < 3 ∧ t f < 100) → qq_at od i (B ++ C) → i + (B ++ C).length = N → B.length < n → (∀ f, f ∈ B → 3 * te + we < 3 * t f + w f) → post (nI (i + B.length)) → wX_spotBehind_13 post (nI e) u1 (nI N) kn cl nd sx T M dl od n (nI i) := by
  intro B
  induction B with
  | nil =>
    intro i n hT ho hi hn hB h
    cases n with
    | zero => cases hn
    | succ n =>
      cases C with
      | nil =>
        exact br_t (nI_le (by simp at hi; omega) (by simp at hi; omega)) h
      | cons s C' =>
        simp at hi
        refine br_f (nI_ge (by omega) (by omega)) ⟨vp_in_nI (by omega) (by decide), ?_⟩
        have hos : od i = nI s ∧ s < 30 := ho.1
        obtain ⟨g1, g2, g3, g4⟩ := hT s (by simp)
        rw [nI_clamp (by omega), hos.1]
        refine xw_gs hos.2 he g1 h1 g2 h2 g3 h3 g4 h4 ?_
        rw [decide_eq_false (hC s C' rfl)]
        exact br_t rfl h
  | cons f B ih =>
    intro i n hT ho hi hn hB h
    cases n with
    | zero => cases hn
    | succ n =>
      simp at hi
      refine br_f (nI_ge (by omega) (by omega)) ⟨vp_in_nI (by omega) (by decide), ?_⟩
      have hos : od i = nI f ∧ f < 30 := ho.1
      obtain ⟨g1, g2, g3, g4⟩ := hT f (by simp)
      rw [nI_clamp (by omega), hos.1]
      refine xw_gs hos.2 he g1 h1 g2 h2 g3 h3 g4 h4 ?_
      rw [decide_eq_true (hB f List.mem_cons_self)]
      refine br_f (by decide) (nm_r (nI_1 i) (ih (i + 1) n (fun g hg => hT g (List.mem_cons_of_mem _ hg)) ho.2 (by simp; omega) (by simp at hn; omega) (fun g hg => hB g (List.mem_cons_of_mem _ hg)) ?_))
      rw [List.length_cons] at h
      rw [show i + 1 + B.length = i + (B.length + 1) by omega]
      exact h
theorem xw_sh13 {post : SX → Prop} {u1 : Int32} {s N e : Nat} : ∀ (d n : Nat) (o : Nat → Int32), s + d < 30 → d < n → (∀ o' : Nat → Int32, (∀ j, j < s → o' j = o j) → o' s = nI e → (∀ j, s < j → j ≤ s + d → o' j = o (j - 1)) → (∀ j, s + d < j → o' j = o j) → post (u1, nI (N + 1), kn, cl, nd, sx, tx, mk, dl, o')) → wX_placeBehind_13 post (nI e) (nI s) u1 (nI N) n (nI (s + d)) kn cl nd sx tx mk dl o := by
  intro d
  induction d with
  | zero =>
    intro n o hs hn h
    cases n with
    | zero => cases hn
    | succ n =>
      refine br_t (nI_le (by omega) (by omega)) ⟨vp_in_nI (by omega) (by decide), nm_e (nm_r (nI_1 N) ?_)⟩
      rw [nI_clamp (by omega)]
      exact h _ (fun j hj => pk_un (by omega)) pk_us (fun j h1 h2 => by omega) (fun j hj => pk_un (by omega))
  | succ d ih =>
    intro n o hs hn h
    cases n with
    | zero => cases hn
    | succ n =>
      have e1 : nI (s + (d + 1)) - 1 = nI (s + d) := nI_pred (s + d)
      refine br_f (nI_ge (by omega) (by omega)) ?_
      rw [e1, nI_clamp (show s + d < 2 ^ 31 by omega), nI_clamp (show s + (d + 1) < 2 ^ 31 by omega)]
      refine ⟨vp_in_nI (by omega) (by decide), vp_in_nI (by omega) (by decide), nm_e (nm_r (pk_m1 (s + d)) (ih n _ (by omega) (by omega) (fun o' a1 a2 a3 a4 => ?_)))⟩
      refine h o' (fun j hj => ?_) a2 (fun j h1 h2 => ?_) (fun j hj => ?_)
      · rw [a1 j hj, pk_un (by omega)]
      · by_cases hj : j = s + (d + 1)
        · subst hj
          rw [a4 _ (by omega), pk_us]
          exact congrArg o (by omega)
        · rw [a3 j h1 (by omega), pk_un (by omega)]
      · rw [a4 j (by omega), pk_un (by omega)]
/-- placeBehind: the new one stands between A ++ B and C -/
theorem xw_place {post : SX → Prop} {u1 : Int32} {T M : Nat → Int32} {N e te we : Nat} {A B C : List Nat} (hN : (A ++ (B ++ C)).length = N) (hN2 : N < 30) (he : e < 30) (h1 : T e = nI te) (h2 : M e = nI we) (h3 : we < 3) (h4 : te < 100) (hT : ∀ f, f ∈ B ++ C → T f = nI (t f) ∧ M f = nI (w f) ∧ w f < 3 ∧ t f < 100) (ho : qq_at od 0 (A ++ (B ++ C))) (hB : ∀ f, f ∈ B → 3 * te + we < 3 * t f + w f) (hC : ∀ s C', C = s :: C' → ¬ 3 * te + we < 3 * t s + w s) (h : ∀ o' : Nat → Int32, qq_at o' 0 ((A ++ B) ++ e :: C) → post (u1, nI (N + 1), kn, cl, nd, sx, T, M, dl, o')) : wpX_placeBehind post (u1, nI N, kn, cl, nd, sx, T, M, dl, od) (qq_dc A.length) (nI e) := by
  have hN' := hN
  simp at hN'
  have hoA := (qq_at_app od A (B ++ C) 0).mp ho
  have walk : ∃ n13 : Nat, wX_spotBehind_13 (fun r_1 => (∃ n13 : Nat, wX_placeBehind_13 post (nI e) r_1 u1 (nI N) n13 (nI N) kn cl nd sx T M dl od)) (nI e) u1 (nI N) kn cl nd sx T M dl od n13 (nI A.length) := by
    refine ⟨B.length + 1, xw_sp13 (by omega) he h1 h2 h3 h4 hC B A.length _ hT (by rw [Nat.zero_add] at hoA; exact hoA.2) (by simp; omega) (by omega) hB ?_⟩
    refine ⟨C.length + 1, ?_⟩
    have eN : N = A.length + B.length + C.length := by omega
    have w1 := xw_sh13 (post := post) (u1 := u1) (kn := kn) (cl := cl) (nd := nd) (sx := sx) (tx := T) (mk := M) (dl := dl) (s := A.length + B.length) (N := N) (e := e) C.length (C.length + 1) od (by omega) (by omega) (fun o' a1 a2 a3 a4 => h o' ?_)
    · rw [← eN] at w1
      exact w1
    · rw [← List.append_assoc] at ho
      have hb := (qq_at_app od (A ++ B) C 0).mp ho
      refine (qq_at_app o' (A ++ B) (e :: C) 0).mpr ⟨?_, ?_⟩
      · exact qq_at_mv od o' 0 (A ++ B) 0 (fun j _ hj => a1 j (by simp at hj; omega)) hb.1
      · rw [Nat.zero_add, List.length_append]
        refine ⟨⟨a2, he⟩, ?_⟩
        have hc := hb.2
        rw [Nat.zero_add, List.length_append] at hc
        exact qq_at_mv od o' 1 C (A.length + B.length) (fun j h1 h2 => a3 (j + 1) (by omega) (by omega)) hc
  unfold wpX_placeBehind wpX_spotBehind
  dsimp only
  cases hA : A.length with
  | zero =>
    rw [hA] at walk
    exact br_t rfl walk
  | succ a =>
    rw [hA] at walk
    refine br_f (fun z => ?_) (nm_r (nI_1 a) walk)
    have z' : nI a = -1 := z
    exact nI_pos (n := a) (by omega) (by rw [z']; decide)
end
