/-! the reference's private methods: replica, isKnown, descends, branch, before -/
theorem yr_t {post : Int32 → Prop} {u : SY} {x : Nat} (hx : x < 3) (h : post 1) : wpY_replica post u (nI x) := by
  unfold wpY_replica
  exact br_f (nI_pos (by omega)) (br_f (nI_nlt (a := 2) (by omega) (by decide)) h)
theorem yr_f {post : Int32 → Prop} {u : SY} {x : Int32} (hx : x < 0 ∨ nI 3 ≤ x) (h : post 0) : wpY_replica post u x := by
  unfold wpY_replica
  by_cases h0 : x < 0
  · exact br_t h0 h
  · rcases hx with hx | hx
    · exact absurd hx h0
    · exact br_f h0 (br_t (Int32.lt_of_lt_of_le (by decide) hx) h)
def qq_dc : Nat → Int32
  | 0 => -1
  | c + 1 => nI c
/-- the forest of the elements: links, stamps, paths of keys by codes (0: no parent, q + 1: element q) -/
def qq_fo (m : Nat) (sy lk ty mk : Nat → Int32) (t w pr : Nat → Nat) (Q : Nat → List Nat) : Prop :=
  Q 0 = [] ∧ ∀ e, e < m → ¬ sy e < 0 → (lk e = qq_dc (pr e) ∧ pr e ≤ e ∧ (∀ q, pr e = q + 1 → ¬ sy q < 0) ∧ Q (e + 1) = Q (pr e) ++ [3 * t e + w e] ∧ ty e = nI (t e) ∧ mk e = nI (w e) ∧ w e < 3 ∧ t e ≤ m ∧ ∀ k, k ∈ Q (pr e) → k < 3 * t e + w e)
def qq_un (m : Nat) (sy : Nat → Int32) (t w : Nat → Nat) : Prop := ∀ e f, e < m → f < m → ¬ sy e < 0 → ¬ sy f < 0 → 3 * t e + w e = 3 * t f + w f → e = f
theorem qq_snoc {X G A : List Nat} {k a : Nat} (h : X ++ [k] = G ++ a :: A) : (A = [] ∧ X = G ∧ k = a) ∨ (∃ A', A = A' ++ [k] ∧ X = G ++ a :: A') := by
  rcases List.eq_nil_or_concat A with hA | ⟨A', b, hA⟩
  · subst hA
    have h2 := List.append_inj' h rfl
    have h3 := h2.2
    simp at h3
    exact Or.inl ⟨rfl, h2.1, h3⟩
  · rw [List.concat_eq_append] at hA
    subst hA
    rw [show G ++ a :: (A' ++ [b]) = (G ++ a :: A') ++ [b] by simp] at h
    have h2 := List.append_inj' h rfl
    have h3 := h2.2
    simp at h3
    exact Or.inr ⟨A', by rw [h3], h2.1⟩
section
variable {post : Int32 → Prop} {m : Nat} {sy lk mk ty nd kn cl : Nat → Int32} {t w pr : Nat → Nat} {Q : Nat → List Nat}
theorem yw_known {x e : Nat} (hx : x < 3) (hm : m ≤ 30) (he : e < m) (h : post (qq_b (bt (kn x) e))) : wpY_isKnown post (nI m, sy, lk, mk, ty, nd, kn, cl) (nI x) (nI e) := by
  unfold wpY_isKnown
  dsimp only
  refine br_f (nI_pos (by omega)) (br_f (nI_ge he (by omega)) ⟨vp_in_nI hx (by decide), ?_⟩)
  rw [nI_clamp (by omega)]
  cases hb : bt (kn x) e with
  | false =>
    rw [hb] at h
    exact br_f (fun z => by rw [(qq_y (by omega)).mp z] at hb; cases hb) h
  | true =>
    rw [hb] at h
    exact br_t ((qq_y (by omega)).mpr hb) h
theorem yw_known0 {x : Nat} {e : Int32} (he : e < 0 ∨ nI m ≤ e) (h : post 0) : wpY_isKnown post (nI m, sy, lk, mk, ty, nd, kn, cl) (nI x) e := by
  unfold wpY_isKnown
  dsimp only
  by_cases h0 : e < 0
  · exact br_t h0 h
  · rcases he with he | he
    · exact absurd he h0
    · exact br_f h0 (br_t he h)
theorem yw_d10 (hm : m ≤ 30) (hF : qq_fo m sy lk ty mk t w pr Q) (hU : qq_un m sy t w) {a : Nat} (ha : a < m) (hea : ¬ sy a < 0) : ∀ (n c k : Nat), (∀ q, c = q + 1 → q < m ∧ ¬ sy q < 0) → c + k ≤ 30 → c < n → (Q (a + 1) <+: Q c → post 1) → (¬ Q (a + 1) <+: Q c → post 0) → wY_descends_10 post (nI a) (nI m) sy lk mk ty nd kn cl n (qq_dc c) (nI k) := by
  intro n
  induction n with
  | zero => intro c k _ _ h; cases h
  | succ n ih =>
    intro c k hc hk hn hp hq
    cases c with
    | zero =>
      have h0 : post 0 := by
        apply hq
        rw [hF.1, (hF.2 a ha hea).2.2.2.1]
        intro h
        have h2 := h.length_le
        simp at h2
      have h1 : wY_descends_39 post (nI a) (qq_dc 0) (nI m) sy lk mk ty nd kn cl := br_t (by decide) h0
      exact br_c (fun _ => h1) (fun _ => br_t (by decide) h1)
    | succ q =>
      obtain ⟨hqm, hqe⟩ := hc q rfl
      show wY_descends_10 post (nI a) (nI m) sy lk mk ty nd kn cl (n + 1) (nI q) (nI k)
      have hq0 : ¬ nI q < 0 := nI_pos (by omega)
      refine br_f (nI_ge (b := 30) (by omega) (by decide)) (br_f hq0 ?_)
      by_cases hqa : q = a
      · subst hqa
        exact br_t rfl (br_f hq0 (br_t rfl (hp (List.prefix_refl _))))
      · refine br_f (fun z => hqa ((nI_eq (by omega) (by omega)).mp z)) ⟨vp_in_nI (by omega) (by decide), ?_⟩
        obtain ⟨f1, f2, f3, f4, _⟩ := hF.2 q hqm hqe
        have hpre : Q (a + 1) <+: Q (q + 1) ↔ Q (a + 1) <+: Q (pr q) := by
          rw [f4, List.prefix_concat_iff]
          constructor
          · rintro (h | h)
            · rw [(hF.2 a ha hea).2.2.2.1] at h
              have h2 := (List.append_inj' h rfl).2
              simp at h2
              exact absurd (hU q a hqm ha hqe hea (by omega)) hqa
            · exact h
          · exact Or.inr
        rw [nI_clamp (by omega), f1]
        refine nm_e (nm_r (nI_1 k) (ih (pr q) (k + 1) ?_ (by omega) (by omega) (fun h => hp (hpre.mpr h)) (fun h => hq (fun z => h (hpre.mp z)))))
        intro q' hq'
        exact ⟨by omega, f3 q' hq'⟩
theorem yw_desc (hm : m ≤ 30) (hF : qq_fo m sy lk ty mk t w pr Q) (hU : qq_un m sy t w) {e a : Nat} (he : e < m) (hee : ¬ sy e < 0) (ha : a < m) (hea : ¬ sy a < 0) (hp : Q (a + 1) <+: Q (pr e) → post 1) (hn : ¬ Q (a + 1) <+: Q (pr e) → post 0) : wpY_descends post (nI m, sy, lk, mk, ty, nd, kn, cl) (nI e) (nI a) := by
  unfold wpY_descends
  dsimp only
  obtain ⟨f1, f2, f3, f4, _⟩ := hF.2 e he hee
  refine ⟨vp_in_nI (by omega) (by decide), ?_⟩
  rw [nI_clamp (by omega), f1]
  exact nm_e ⟨pr e + 1, yw_d10 hm hF hU ha hea (pr e + 1) (pr e) 0 (fun q h => ⟨by omega, f3 q h⟩) (by omega) (by omega) hp hn⟩
theorem yw_br5 (hm : m ≤ 30) (hF : qq_fo m sy lk ty mk t w pr Q) (hU : qq_un m sy t w) {f : Nat} (hf : f < m) (hef : ¬ sy f < 0) {G B : List Nat} {a b : Nat} (hab : a ≠ b) (hQf : Q (f + 1) = G ++ b :: B) (hp : ∀ r, r < m → ¬ sy r < 0 → Q (r + 1) = G ++ [a] → post (nI r)) : ∀ (n p k : Nat) (A : List Nat), p < m → ¬ sy p < 0 → p + k < 30 → p < n → Q (p + 1) = G ++ a :: A → wY_branch_5 post (nI f) (nI m) sy lk mk ty nd kn cl n (nI p) (nI k) := by
  obtain ⟨g1, g2, g3, g4, _⟩ := hF.2 f hf hef
  have hGf : G <+: Q (pr f) := by
    rw [hQf] at g4
    rcases qq_snoc g4.symm with ⟨_, h, _⟩ | ⟨A', _, h⟩
    · rw [h]; exact List.prefix_refl _
    · rw [h]; exact List.prefix_append _ _
  have hQf2 : Q (pr f) <+: G ++ b :: B := by rw [← hQf, g4]; exact List.prefix_append _ _
  intro n
  induction n with
  | zero => intro p k A _ _ _ h; cases h
  | succ n ih =>
    intro p k A hpm hep hk hn hQ
    obtain ⟨f1, f2, f3, f4, _⟩ := hF.2 p hpm hep
    refine br_f (nI_ge (b := 30) (by omega) (by decide)) ⟨vp_in_nI (by omega) (by decide), ?_⟩
    rw [nI_clamp (by omega), f1]
    rw [hQ] at f4
    cases hpr : pr p with
    | zero =>
      refine br_t (by decide) (hp p hpm hep ?_)
      rw [hpr, hF.1] at f4
      rcases qq_snoc f4.symm with ⟨h1, h2, h3⟩ | ⟨A', h1, h2⟩
      · rw [hQ, h1]
      · have h3 := congrArg List.length h2
        simp at h3
    | succ q =>
      have hq := f3 q hpr
      refine br_f (nI_pos (by omega)) ⟨vp_in_nI (by omega) (by decide), ?_⟩
      rw [hpr] at f4
      refine yw_desc hm hF hU hf hef (by omega) hq ?_ ?_
      · intro hpre
        refine br_f (by decide) (hp p hpm hep ?_)
        rcases qq_snoc f4.symm with ⟨h1, h2, h3⟩ | ⟨A', h1, h2⟩
        · rw [hQ, h1]
        · rw [h2] at hpre
          have h3 := List.IsPrefix.trans hpre hQf2
          rw [List.prefix_append_right_inj, List.cons_prefix_cons] at h3
          exact absurd h3.1 hab
      · intro hpre
        rcases qq_snoc f4.symm with ⟨h1, h2, h3⟩ | ⟨A', h1, h2⟩
        · rw [h2] at hpre
          exact absurd hGf hpre
        · exact br_t rfl ⟨vp_in_nI (by omega) (by decide), nm_e (nm_r (nI_1 k) (ih q (k + 1) A' (by omega) hq (by omega) (by omega) h2))⟩
theorem yw_branch (hm : m ≤ 30) (hF : qq_fo m sy lk ty mk t w pr Q) (hU : qq_un m sy t w) {e f : Nat} (he : e < m) (hee : ¬ sy e < 0) (hf : f < m) (hef : ¬ sy f < 0) {G A B : List Nat} {a b : Nat} (hab : a ≠ b) (hQe : Q (e + 1) = G ++ a :: A) (hQf : Q (f + 1) = G ++ b :: B) (hp : ∀ r, r < m → ¬ sy r < 0 → Q (r + 1) = G ++ [a] → post (nI r)) : wpY_branch post (nI m, sy, lk, mk, ty, nd, kn, cl) (nI e) (nI f) := by
  unfold wpY_branch
  exact ⟨e + 1, yw_br5 hm hF hU hf hef hab hQf hp (e + 1) e 0 A he hee (by omega) (by omega) hQe⟩
theorem yw_px (hF : qq_fo m sy lk ty mk t w pr Q) (hU : qq_un m sy t w) {a b : Nat} (ha : a < m) (hea : ¬ sy a < 0) (hb : b < m) (heb : ¬ sy b < 0) (hab : a ≠ b) : Q (a + 1) ≠ Q (b + 1) ∧ (Q (a + 1) <+: Q (b + 1) ↔ Q (a + 1) <+: Q (pr b)) := by
  have hne : Q (a + 1) ≠ Q (b + 1) := by
    rw [(hF.2 a ha hea).2.2.2.1, (hF.2 b hb heb).2.2.2.1]
    intro h
    have h2 := (List.append_inj' h rfl).2
    simp at h2
    exact hab (hU a b ha hb hea heb h2)
  refine ⟨hne, ?_⟩
  constructor
  · intro h
    rw [(hF.2 b hb heb).2.2.2.1, List.prefix_concat_iff, ← (hF.2 b hb heb).2.2.2.1] at h
    rcases h with h | h
    · exact absurd h hne
    · exact h
  · intro h
    rw [(hF.2 b hb heb).2.2.2.1]
    exact List.IsPrefix.trans h (List.prefix_append _ _)
theorem yw_key (hF : qq_fo m sy lk ty mk t w pr Q) {r : Nat} {G : List Nat} {a : Nat} (hr : r < m) (her : ¬ sy r < 0) (h : Q (r + 1) = G ++ [a]) : 3 * t r + w r = a := by
  rw [(hF.2 r hr her).2.2.2.1] at h
  have h2 := (List.append_inj' h rfl).2
  simp at h2
  exact h2
theorem yw_b18 (hm : m ≤ 30) (hF : qq_fo m sy lk ty mk t w pr Q) (hU : qq_un m sy t w) {a b : Nat} (ha : a < m) (hea : ¬ sy a < 0) (hb : b < m) (heb : ¬ sy b < 0) (hp : Q (a + 1) <+: Q (pr b) → post 1) (hn : ¬ Q (a + 1) <+: Q (pr b) → post 0) : wY_before_18 post (nI a) (nI b) (nI m) sy lk mk ty nd kn cl := by
  unfold wY_before_18
  exact yw_desc hm hF hU hb heb ha hea (fun h => ⟨rfl, hp h⟩) (fun h => ⟨rfl, hn h⟩)
theorem yw_before (hm : m ≤ 30) (hF : qq_fo m sy lk ty mk t w pr Q) (hU : qq_un m sy t w) {a b : Nat} (ha : a < m) (hea : ¬ sy a < 0) (hb : b < m) (heb : ¬ sy b < 0) (hab : a ≠ b) (h : post (qq_b (qq_bf (Q (a + 1)) (Q (b + 1))))) : wpY_before post (nI m, sy, lk, mk, ty, nd, kn, cl) (nI a) (nI b) := by
  unfold wpY_before
  dsimp only
  obtain ⟨hne, hx1⟩ := yw_px hF hU ha hea hb heb hab
  obtain ⟨_, hx2⟩ := yw_px hF hU hb heb ha hea (Ne.symm hab)
  refine yw_desc hm hF hU hb heb ha hea ?_ ?_
  · intro h1
    refine br_f (by decide) (yw_b18 hm hF hU ha hea hb heb (fun _ => ?_) (fun z => absurd h1 z))
    rw [qq_bf_px (hx1.mpr h1) hne] at h
    exact h
  · intro h1
    refine br_t rfl (yw_desc hm hF hU ha hea hb heb ?_ ?_)
    · intro h2
      refine br_f (by decide) (yw_b18 hm hF hU ha hea hb heb (fun z => absurd z h1) (fun _ => ?_))
      rw [qq_bf_as (qq_bf_px (hx2.mpr h2) (Ne.symm hne))] at h
      exact h
    · intro h2
      refine br_t rfl ?_
      rcases qq_split (Q (a + 1)) (Q (b + 1)) with h3 | h3 | ⟨G, x, y, A, B, h3, h4, h5⟩
      · exact absurd (hx1.mp h3) h1
      · exact absurd (hx2.mp h3) h2
      · rw [h3, h4, qq_bf_ne h5] at h
        refine yw_branch hm hF hU ha hea hb heb h5 h3 h4 (fun r hr her hQr => ?_)
        refine yw_branch hm hF hU hb heb ha hea (Ne.symm h5) h4 h3 (fun s hs hes hQs => ?_)
        have kr := yw_key hF hr her hQr
        have ks := yw_key hF hs hes hQs
        obtain ⟨_, _, _, _, r1, r2, r3, r4, _⟩ := hF.2 r hr her
        obtain ⟨_, _, _, _, s1, s2, s3, s4, _⟩ := hF.2 s hs hes
        have vr : vp_in (nI r) 30 := vp_in_nI (by omega) (by decide)
        have vs : vp_in (nI s) 30 := vp_in_nI (by omega) (by decide)
        refine ⟨vr, vs, ?_⟩
        rw [nI_clamp (show r < 2 ^ 31 by omega), nI_clamp (show s < 2 ^ 31 by omega), r1, s1, r2, s2]
        refine pk_lt (t s) (t r) (fun hlt => ?_) (fun hge => ⟨vr, vs, ?_⟩)
        · rw [decide_eq_true (by omega)] at h
          exact h
        · refine pk_eq (t r) (t s) (fun heq => ⟨vr, vs, ?_⟩) (fun hne => ?_)
          · refine pk_le (w r) (w s) (fun hle => ?_) (fun hgt => ?_)
            · rw [decide_eq_false (by omega)] at h
              exact h
            · rw [decide_eq_true (by omega)] at h
              exact h
          · rw [decide_eq_false (by omega)] at h
            exact h
end
