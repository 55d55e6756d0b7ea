/-! the reference's stands, rank, element, length, elements -/
def qq_el (sy : Nat → Int32) (e : Nat) : Bool := decide (¬ sy e < 0)
theorem qq_el_t {sy : Nat → Int32} {e : Nat} : qq_el sy e = true ↔ ¬ sy e < 0 := by
  unfold qq_el
  rw [decide_eq_true_iff]
def qq_G (m : Nat) (sy lk ty mk dl : Nat → Int32) (t w pr : Nat → Nat) (Q : Nat → List Nat) (L : List Nat) : Prop :=
  m ≤ 30 ∧ qq_fo m sy lk ty mk t w pr Q ∧ qq_un m sy t w ∧ (∀ e d, e < 30 → d < 32 → (bt (dl e) d = true ↔ (d < m ∧ sy d < 0 ∧ lk d = nI e))) ∧ L.Pairwise (fun a b => qq_bf (Q (a + 1)) (Q (b + 1)) = true) ∧ L.Perm ((List.range m).filter (qq_el sy))
section
variable {post : Int32 → Prop} {m x : Nat} {sy lk mk ty nd kn cl dl : Nat → Int32} {t w pr : Nat → Nat} {Q : Nat → List Nat} {L : List Nat}
theorem yw_s0 {x1 x2 : Int32} (hm : m ≤ 30) (h : post 0) : ∀ (d i n : Nat), i + d = m → d < n → wY_stands_27 post x1 x2 (nI m) sy lk mk ty nd kn cl n 0 (nI i) := by
  intro d
  induction d with
  | zero =>
    intro i n hi hn
    cases n with
    | zero => cases hn
    | succ n => exact br_t (nI_le (by omega) (by omega)) ⟨rfl, h⟩
  | succ d ih =>
    intro i n hi hn
    cases n with
    | zero => cases hn
    | succ n => exact br_f (nI_ge (by omega) (by omega)) (br_t rfl (nm_r (nI_1 i) (ih (i + 1) n (by omega) (by omega))))
theorem yw_s1 {x2 : Int32} (hx : x < 3) (hm : m ≤ 30) : ∀ (d i n : Nat), i + d = m → d < n → ((∀ f, i ≤ f → f < m → bt (kn x) f = true → sy f < 0 → lk f = x2 → False) → post 1) → ((∃ f, i ≤ f ∧ f < m ∧ bt (kn x) f = true ∧ sy f < 0 ∧ lk f = x2) → post 0) → wY_stands_27 post (nI x) x2 (nI m) sy lk mk ty nd kn cl n 1 (nI i) := by
  intro d
  induction d with
  | zero =>
    intro i n hi hn hp hq
    cases n with
    | zero => cases hn
    | succ n => exact br_t (nI_le (by omega) (by omega)) ⟨rfl, hp (fun f h1 h2 => by omega)⟩
  | succ d ih =>
    intro i n hi hn hp hq
    cases n with
    | zero => cases hn
    | succ n =>
      have next : ¬ (bt (kn x) i = true ∧ sy i < 0 ∧ lk i = x2) → wY_stands_27 post (nI x) x2 (nI m) sy lk mk ty nd kn cl n 1 (nI (i + 1)) := by
        intro hno
        refine ih (i + 1) n (by omega) (by omega) (fun h => hp (fun f h1 h2 h3 h4 h5 => ?_)) (fun h => hq ?_)
        · by_cases hf : f = i
          · subst hf
            exact hno ⟨h3, h4, h5⟩
          · exact h f (by omega) h2 h3 h4 h5
        · obtain ⟨f, h1, h2⟩ := h
          exact ⟨f, by omega, h2⟩
      refine br_f (nI_ge (by omega) (by omega)) (br_f (by decide) (yw_known hx hm (by omega) ?_))
      cases hb : bt (kn x) i with
      | false => exact br_t rfl (nm_r (nI_1 i) (next (fun z => by rw [hb] at z; cases z.1)))
      | true =>
        refine br_f (by decide) ⟨vp_in_nI (by omega) (by decide), ?_⟩
        rw [nI_clamp (by omega)]
        by_cases hs : 0 ≤ sy i
        · exact br_t hs (nm_r (nI_1 i) (next (fun z => Int32.not_lt.mpr hs z.2.1)))
        · refine br_f hs ⟨vp_in_nI (by omega) (by decide), ?_⟩
          by_cases hl : lk i = x2
          · exact br_t hl (nm_r (nI_1 i) (yw_s0 hm (hq ⟨i, by omega, by omega, hb, Int32.not_le.mp hs, hl⟩) d (i + 1) n (by omega) (by omega)))
          · exact br_f hl (nm_r (nI_1 i) (next (fun z => hl z.2.2)))
theorem qq_sh_iff (hD : ∀ e d, e < 30 → d < 32 → (bt (dl e) d = true ↔ (d < m ∧ sy d < 0 ∧ lk d = nI e))) (hm : m ≤ 30) {e : Nat} (he : e < 30) : (kn x &&& dl e = 0) ↔ (∀ f, 0 ≤ f → f < m → bt (kn x) f = true → sy f < 0 → lk f = nI e → False) := by
  rw [qq_and0]
  constructor
  · intro h f _ h1 h2 h3 h4
    exact h f (by omega) h2 ((hD e f he (by omega)).mpr ⟨h1, h3, h4⟩)
  · intro h f h1 h2 h3
    obtain ⟨h4, h5, h6⟩ := (hD e f he h1).mp h3
    exact h f (by omega) h4 h2 h5 h6
theorem yw_stands (hx : x < 3) (hG : qq_G m sy lk ty mk dl t w pr Q L) {e : Nat} (he : e < m) (h : post (qq_b (qq_el sy e && qq_sh kn dl x e))) : wpY_stands post (nI m, sy, lk, mk, ty, nd, kn, cl) (nI x) (nI e) := by
  obtain ⟨hm, hF, hU, hD, hP, hL⟩ := hG
  unfold wpY_stands
  dsimp only
  refine yw_known hx hm he ?_
  unfold qq_sh at h
  cases hb : bt (kn x) e with
  | false =>
    rw [hb, Bool.false_and, Bool.and_false] at h
    exact br_t rfl ⟨m + 1, yw_s0 hm h m 0 _ (by omega) (by omega)⟩
  | true =>
    rw [hb, Bool.true_and] at h
    refine br_f (by decide) ⟨vp_in_nI (by omega) (by decide), ?_⟩
    rw [nI_clamp (by omega)]
    by_cases hs : sy e < 0
    · have h2 : qq_el sy e = false := by
        unfold qq_el
        simp [hs]
      rw [h2, Bool.false_and] at h
      exact br_t hs ⟨m + 1, yw_s0 hm h m 0 _ (by omega) (by omega)⟩
    · rw [qq_el_t.mpr hs, Bool.true_and] at h
      refine br_f hs ⟨m + 1, yw_s1 hx hm m 0 _ (by omega) (by omega) (fun z => ?_) (fun z => ?_)⟩
      · rw [decide_eq_true ((qq_sh_iff hD hm (by omega)).mpr z)] at h
        exact h
      · rw [decide_eq_false] at h
        · exact h
        · intro z2
          obtain ⟨f, h1, h2, h3, h4, h5⟩ := z
          exact (qq_sh_iff hD hm (by omega)).mp z2 f h1 h2 h3 h4 h5
theorem yw_stands0 (hm : m ≤ 30) {e : Int32} (he : e < 0 ∨ nI m ≤ e) (h : post 0) : wpY_stands post (nI m, sy, lk, mk, ty, nd, kn, cl) (nI x) e := by
  unfold wpY_stands
  dsimp only
  exact yw_known0 he (br_t rfl ⟨m + 1, yw_s0 hm h m 0 _ (by omega) (by omega)⟩)
theorem yw_r5 (hx : x < 3) (hG : qq_G m sy lk ty mk dl t w pr Q L) {e : Nat} (he : e < m) (hee : ¬ sy e < 0) : ∀ (d f c n : Nat), f + d = m → d < n → post (nI (c + (List.range' f d).countP (fun g => qq_el sy g && (qq_sh kn dl x g && qq_bf (Q (g + 1)) (Q (e + 1)))))) → wY_rank_5 post (nI x) (nI e) (nI m) sy lk mk ty nd kn cl n (nI c) (nI f) := by
  have hm := hG.1
  intro d
  induction d with
  | zero =>
    intro f c n hf hn h
    cases n with
    | zero => cases hn
    | succ n => exact br_t (nI_le (by omega) (by omega)) h
  | succ d ih =>
    intro f c n hf hn h
    cases n with
    | zero => cases hn
    | succ n =>
      rw [List.range'_succ] at h
      have skip : (qq_el sy f && (qq_sh kn dl x f && qq_bf (Q (f + 1)) (Q (e + 1)))) = false → wY_rank_5 post (nI x) (nI e) (nI m) sy lk mk ty nd kn cl n (nI c) (nI (f + 1)) := by
        intro hz
        rw [List.countP_cons_of_neg (by simp only [hz]; decide)] at h
        exact ih (f + 1) c n (by omega) (by omega) h
      refine br_f (nI_ge (by omega) (by omega)) ?_
      by_cases hfe : f = e
      · subst hfe
        exact br_t rfl (nm_r (nI_1 f) (skip (by rw [qq_bf_irr, Bool.and_false, Bool.and_false])))
      · refine br_f (fun z => hfe ((nI_eq (by omega) (by omega)).mp z)) (yw_stands hx hG (by omega) ?_)
        cases hs : qq_el sy f && qq_sh kn dl x f with
        | false =>
          exact br_t rfl (nm_r (nI_1 f) (skip (by rw [← Bool.and_assoc, hs, Bool.false_and])))
        | true =>
          have hel : qq_el sy f = true := by
            cases hz : qq_el sy f with
            | false => rw [hz, Bool.false_and] at hs; cases hs
            | true => rfl
          refine br_f (by decide) (yw_before hm hG.2.1 hG.2.2.1 (by omega) (qq_el_t.mp hel) he hee hfe ?_)
          cases hb : qq_bf (Q (f + 1)) (Q (e + 1)) with
          | false => exact br_t rfl (nm_r (nI_1 f) (skip (by rw [hb, Bool.and_false, Bool.and_false])))
          | true =>
            rw [List.countP_cons_of_pos (by rw [← Bool.and_assoc, hs, hb]; rfl), Nat.add_comm _ 1, ← Nat.add_assoc] at h
            exact br_f (by decide) (nm_r (nI_1 c) (nm_r (nI_1 f) (ih (f + 1) (c + 1) n (by omega) (by omega) h)))
theorem yw_rank (hx : x < 3) (hG : qq_G m sy lk ty mk dl t w pr Q L) {A B : List Nat} {e : Nat} (hL : L = A ++ e :: B) (h : post (nI (A.countP (qq_sh kn dl x)))) : wpY_rank post (nI m, sy, lk, mk, ty, nd, kn, cl) (nI x) (nI e) := by
  unfold wpY_rank
  have hG2 := hG
  obtain ⟨hm, hF, hU, hD, hP, hPm⟩ := hG2
  have hmem : e ∈ L := by rw [hL]; simp
  obtain ⟨he, hee⟩ := (qq_mem hPm).mp hmem
  refine ⟨m + 1, yw_r5 (L := L) hx hG he (qq_el_t.mp hee) m 0 0 _ (by omega) (by omega) ?_⟩
  rw [← List.range_eq_range', Nat.zero_add, qq_perm hPm (fun g => qq_sh kn dl x g && qq_bf (Q (g + 1)) (Q (e + 1)))]
  rw [hL] at hP ⊢
  rw [qq_rank (P := fun a => Q (a + 1)) (qq_sh kn dl x) hP]
  exact h
theorem yw_e2f (hx : x < 3) (hG : qq_G m sy lk ty mk dl t w pr Q L) {A B : List Nat} {e : Nat} {p : Int32} (hL : L = A ++ e :: B) (he : qq_sh kn dl x e = true) (hp : nI (A.countP (qq_sh kn dl x)) = p) (h : post (nI e)) : ∀ (d f n : Nat), f + d = e → d < n → wY_element_2 post (nI x) p (nI m) sy lk mk ty nd kn cl n (nI f) := by
  have hG2 := hG
  obtain ⟨hm, hF, hU, hD, hP, hPm⟩ := hG2
  have hmem : e ∈ L := by rw [hL]; simp
  obtain ⟨hem, hee⟩ := (qq_mem hPm).mp hmem
  intro d
  induction d with
  | zero =>
    intro f n hf hn
    cases n with
    | zero => cases hn
    | succ n =>
      have hfe : f = e := by omega
      subst hfe
      refine br_f (nI_ge (by omega) (by omega)) (yw_stands hx hG hem ?_)
      rw [hee, he]
      exact br_f (by decide) (yw_rank hx hG hL (br_t hp h))
  | succ d ih =>
    intro f n hf hn
    cases n with
    | zero => cases hn
    | succ n =>
      refine br_f (nI_ge (by omega) (by omega)) (yw_stands hx hG (by omega) ?_)
      cases hs : qq_el sy f && qq_sh kn dl x f with
      | false => exact br_t rfl (nm_r (nI_1 f) (ih (f + 1) n (by omega) (by omega)))
      | true =>
        rw [Bool.and_eq_true] at hs
        have hfL : f ∈ L := (qq_mem hPm).mpr ⟨by omega, hs.1⟩
        obtain ⟨A', B', hL'⟩ := List.append_of_mem hfL
        refine br_f (by decide) (yw_rank hx hG hL' (br_f ?_ (nm_r (nI_1 f) (ih (f + 1) n (by omega) (by omega)))))
        intro z
        have hlen := qq_len hPm
        have c1 := List.countP_le_length (p := qq_sh kn dl x) (l := A)
        have c2 := List.countP_le_length (p := qq_sh kn dl x) (l := A')
        have l1 := congrArg List.length hL
        have l2 := congrArg List.length hL'
        simp at l1 l2
        rw [← hp, nI_eq (by omega) (by omega)] at z
        have := (qq_cut (qq_sh kn dl x) A' A f e B' B (by rw [← hL', ← hL]) hs.2 he z).2.1
        omega
theorem yw_e2n (hx : x < 3) (hG : qq_G m sy lk ty mk dl t w pr Q L) {p : Int32} (hn : ∀ A e B, L = A ++ e :: B → qq_sh kn dl x e = true → ¬ nI (A.countP (qq_sh kn dl x)) = p) (h : post (-1)) : ∀ (d f n : Nat), f + d = m → d < n → wY_element_2 post (nI x) p (nI m) sy lk mk ty nd kn cl n (nI f) := by
  have hG2 := hG
  obtain ⟨hm, hF, hU, hD, hP, hPm⟩ := hG2
  intro d
  induction d with
  | zero =>
    intro f n hf hn
    cases n with
    | zero => cases hn
    | succ n => exact br_t (nI_le (by omega) (by omega)) h
  | succ d ih =>
    intro f n hf hnn
    cases n with
    | zero => cases hnn
    | succ n =>
      refine br_f (nI_ge (by omega) (by omega)) (yw_stands hx hG (by omega) ?_)
      cases hs : qq_el sy f && qq_sh kn dl x f with
      | false => exact br_t rfl (nm_r (nI_1 f) (ih (f + 1) n (by omega) (by omega)))
      | true =>
        rw [Bool.and_eq_true] at hs
        have hfL : f ∈ L := (qq_mem hPm).mpr ⟨by omega, hs.1⟩
        obtain ⟨A', B', hL'⟩ := List.append_of_mem hfL
        exact br_f (by decide) (yw_rank hx hG hL' (br_f (hn A' f B' hL' hs.2) (nm_r (nI_1 f) (ih (f + 1) n (by omega) (by omega)))))
theorem yw_el_f (hx : x < 3) (hG : qq_G m sy lk ty mk dl t w pr Q L) {A B : List Nat} {e : Nat} {p : Int32} (hL : L = A ++ e :: B) (he : qq_sh kn dl x e = true) (hp : nI (A.countP (qq_sh kn dl x)) = p) (h : post (nI e)) : wpY_element post (nI m, sy, lk, mk, ty, nd, kn, cl) (nI x) p := by
  unfold wpY_element
  exact ⟨e + 1, yw_e2f hx hG hL he hp h e 0 _ (by omega) (by omega)⟩
theorem yw_el_n (hx : x < 3) (hG : qq_G m sy lk ty mk dl t w pr Q L) {p : Int32} (hn : ∀ A e B, L = A ++ e :: B → qq_sh kn dl x e = true → ¬ nI (A.countP (qq_sh kn dl x)) = p) (h : post (-1)) : wpY_element post (nI m, sy, lk, mk, ty, nd, kn, cl) (nI x) p := by
  unfold wpY_element
  exact ⟨m + 1, yw_e2n hx hG hn h m 0 _ (by omega) (by omega)⟩
theorem yw_l4 (hx : x < 3) (hG : qq_G m sy lk ty mk dl t w pr Q L) : ∀ (d f c n : Nat), f + d = m → d < n → post (nI (c + (List.range' f d).countP (fun g => qq_el sy g && qq_sh kn dl x g))) → wY_length_4 post (nI x) (nI m) sy lk mk ty nd kn cl n (nI c) (nI f) := by
  have hm := hG.1
  intro d
  induction d with
  | zero =>
    intro f c n hf hn h
    cases n with
    | zero => cases hn
    | succ n =>
      refine br_t (nI_le (by omega) (by omega)) ?_
      unfold wY_length_43
      exact yr_t hx (br_f (by decide) h)
  | succ d ih =>
    intro f c n hf hn h
    cases n with
    | zero => cases hn
    | succ n =>
      rw [List.range'_succ] at h
      refine br_f (nI_ge (by omega) (by omega)) (yr_t hx (br_f (by decide) (yw_stands hx hG (by omega) ?_)))
      cases hs : qq_el sy f && qq_sh kn dl x f with
      | false =>
        rw [List.countP_cons_of_neg (by simp only [hs]; decide)] at h
        exact br_t rfl (nm_r (nI_1 f) (ih (f + 1) c n (by omega) (by omega) h))
      | true =>
        rw [List.countP_cons_of_pos (by exact hs), Nat.add_comm _ 1, ← Nat.add_assoc] at h
        exact br_f (by decide) (nm_r (nI_1 c) (nm_r (nI_1 f) (ih (f + 1) (c + 1) n (by omega) (by omega) h)))
theorem yw_len (hx : x < 3) (hG : qq_G m sy lk ty mk dl t w pr Q L) (h : post (nI (L.countP (qq_sh kn dl x)))) : wpY_length post (nI m, sy, lk, mk, ty, nd, kn, cl) (nI x) := by
  unfold wpY_length
  refine ⟨m + 1, yw_l4 hx hG m 0 0 _ (by omega) (by omega) ?_⟩
  rw [← List.range_eq_range', Nat.zero_add, qq_perm hG.2.2.2.2.2 (qq_sh kn dl x)]
  exact h
theorem yw_len0 {x1 : Int32} (hx : x1 < 0 ∨ nI 3 ≤ x1) (h : post (-1)) : wpY_length post (nI m, sy, lk, mk, ty, nd, kn, cl) x1 := by
  unfold wpY_length
  have h1 : wY_length_43 post x1 0 (nI m) sy lk mk ty nd kn cl := by
    unfold wY_length_43
    exact yr_f hx (br_t rfl h)
  exact ⟨1, br_c (fun _ => h1) (fun _ => yr_f hx (br_t rfl h1))⟩
theorem yw_m4 (hx : x < 3) (hm : m ≤ 30) : ∀ (d f c n : Nat), f + d = m → d < n → post (nI (c + (List.range' f d).countP (fun g => qq_el sy g && bt (kn x) g))) → wY_elements_4 post (nI x) (nI m) sy lk mk ty nd kn cl n (nI c) (nI f) := by
  intro d
  induction d with
  | zero =>
    intro f c n hf hn h
    cases n with
    | zero => cases hn
    | succ n =>
      refine br_t (nI_le (by omega) (by omega)) ?_
      unfold wY_elements_52
      exact yr_t hx (br_f (by decide) h)
  | succ d ih =>
    intro f c n hf hn h
    cases n with
    | zero => cases hn
    | succ n =>
      rw [List.range'_succ] at h
      refine br_f (nI_ge (by omega) (by omega)) (yr_t hx (br_f (by decide) (yw_known hx hm (by omega) ?_)))
      cases hb : bt (kn x) f with
      | false =>
        rw [List.countP_cons_of_neg (by simp [hb])] at h
        exact br_t rfl (nm_r (nI_1 f) (ih (f + 1) c n (by omega) (by omega) h))
      | true =>
        refine br_f (by decide) ⟨vp_in_nI (by omega) (by decide), ?_⟩
        rw [nI_clamp (by omega)]
        by_cases hs : sy f < 0
        · rw [List.countP_cons_of_neg (by simp [qq_el, hs])] at h
          exact br_t hs (nm_r (nI_1 f) (ih (f + 1) c n (by omega) (by omega) h))
        · rw [List.countP_cons_of_pos (by rw [qq_el_t.mpr hs, hb]; rfl), Nat.add_comm _ 1, ← Nat.add_assoc] at h
          exact br_f hs (nm_r (nI_1 c) (nm_r (nI_1 f) (ih (f + 1) (c + 1) n (by omega) (by omega) h)))
theorem yw_els (hx : x < 3) (hG : qq_G m sy lk ty mk dl t w pr Q L) (h : post (nI (L.countP (fun e => bt (kn x) e)))) : wpY_elements post (nI m, sy, lk, mk, ty, nd, kn, cl) (nI x) := by
  unfold wpY_elements
  refine ⟨m + 1, yw_m4 hx hG.1 m 0 0 _ (by omega) (by omega) ?_⟩
  rw [← List.range_eq_range', Nat.zero_add, qq_perm hG.2.2.2.2.2 (fun e => bt (kn x) e)]
  exact h
theorem yw_els0 {x1 : Int32} (hx : x1 < 0 ∨ nI 3 ≤ x1) (h : post (-1)) : wpY_elements post (nI m, sy, lk, mk, ty, nd, kn, cl) x1 := by
  unfold wpY_elements
  have h1 : wY_elements_52 post x1 0 (nI m) sy lk mk ty nd kn cl := by
    unfold wY_elements_52
    exact yr_f hx (br_t rfl h)
  exact ⟨1, br_c (fun _ => h1) (fun _ => yr_f hx (br_t rfl h1))⟩
theorem yw_at_f (hx : x < 3) (hG : qq_G m sy lk ty mk dl t w pr Q L) {A B : List Nat} {e : Nat} {p : Int32} (hL : L = A ++ e :: B) (he : qq_sh kn dl x e = true) (hp : nI (A.countP (qq_sh kn dl x)) = p) (h : post (sy e)) : wpY_at post (nI m, sy, lk, mk, ty, nd, kn, cl) (nI x) p := by
  have hmem : e ∈ L := by rw [hL]; simp
  have hem := ((qq_mem hG.2.2.2.2.2).mp hmem).1
  have hm := hG.1
  unfold wpY_at
  dsimp only
  refine yr_t hx (br_f (by decide) (yw_el_f hx hG hL he hp ?_))
  unfold wY_at_18
  refine br_t (nI_pos' (by omega)) ⟨vp_in_nI (by omega) (by decide), ?_⟩
  rw [nI_clamp (by omega)]
  exact h
theorem yw_at_n (hx : x < 3) (hG : qq_G m sy lk ty mk dl t w pr Q L) {p : Int32} (hn : ∀ A e B, L = A ++ e :: B → qq_sh kn dl x e = true → ¬ nI (A.countP (qq_sh kn dl x)) = p) (h : post (-1)) : wpY_at post (nI m, sy, lk, mk, ty, nd, kn, cl) (nI x) p := by
  unfold wpY_at
  dsimp only
  refine yr_t hx (br_f (by decide) (yw_el_n hx hG hn ?_))
  unfold wY_at_18
  exact br_f (by decide) h
end
