/-! the class's reading methods against pure pictures -/
def qq_b : Bool → Int32
  | true => 1
  | false => 0
def qq_sh (kn dl : Nat → Int32) (x e : Nat) : Bool := bt (kn x) e && decide (kn x &&& dl e = 0)
theorem xr_t {post : Int32 → Prop} {u : SX} {x : Nat} (hx : x < 3) (h : post 1) : wpX_isReplica post u (nI x) := by
  unfold wpX_isReplica
  exact br_f (nI_pos (by omega)) (br_f (nI_ge (b := 3) hx (by decide)) h)
theorem xr_f {post : Int32 → Prop} {u : SX} {x : Int32} (hx : x < 0 ∨ nI 3 ≤ x) (h : post 0) : wpX_isReplica post u x := by
  unfold wpX_isReplica
  by_cases h0 : x < 0
  · exact br_t h0 h
  · rcases hx with hx | hx
    · exact absurd hx h0
    · exact br_f h0 (br_t hx h)
section
variable {post : Int32 → Prop} {fm p : Int32} {N x : Nat} {kn cl nd sx tx mk dl od : Nat → Int32}
theorem xw_knows {fp : Int32} {e : Nat} (hx : x < 3) (he : e < 32) (h : post (qq_b (bt (kn x) e))) : wpX_knows post (fm, fp, kn, cl, nd, sx, tx, mk, dl, od) (nI x) (nI e) := by
  unfold wpX_knows
  dsimp only
  refine ⟨vp_in_nI hx (by decide), ?_⟩
  rw [nI_clamp (by omega)]
  cases hb : bt (kn x) e with
  | false =>
    rw [hb] at h
    exact br_t ((qq_x he).mpr hb) h
  | true =>
    rw [hb] at h
    exact br_f (fun z => by rw [(qq_x he).mp z] at hb; cases hb) h
theorem xw_shown {fp : Int32} {e : Nat} (hx : x < 3) (he : e < 30) (h : post (qq_b (qq_sh kn dl x e))) : wpX_isShown post (fm, fp, kn, cl, nd, sx, tx, mk, dl, od) (nI x) (nI e) := by
  unfold wpX_isShown
  dsimp only
  refine xw_knows hx (by omega) ?_
  unfold qq_sh at h
  cases hb : bt (kn x) e with
  | false =>
    rw [hb] at h
    exact br_t rfl h
  | true =>
    rw [hb] at h
    refine br_f (by decide) ⟨vp_in_nI hx (by decide), vp_in_nI he (by decide), ?_⟩
    rw [nI_clamp (by omega), nI_clamp (by omega)]
    by_cases hc : kn x &&& dl e = 0
    · rw [decide_eq_true hc] at h
      exact br_t hc h
    · rw [decide_eq_false hc] at h
      exact br_f hc h
theorem xw_ix5 (hx : x < 3) (hN : N ≤ 30) : ∀ (r : List Nat) (i c n : Nat), qq_at od i r → i + r.length = N → r.length < n → post (qq_ix (qq_sh kn dl x) p r c i) → wX_indexAt_5 post (nI x) p fm (nI N) kn cl nd sx tx mk dl od n (nI c) (nI i) := by
  intro r
  induction r with
  | nil =>
    intro i c n ho hi hn h
    cases n with
    | zero => cases hn
    | succ n => exact br_t (nI_le (by simp at hi; omega) (by simp at hi; omega)) h
  | cons e r ih =>
    intro i c n ho hi hn h
    rw [List.length_cons] at hi hn
    cases n with
    | zero => cases hn
    | succ n =>
      refine br_f (nI_ge (by omega) (by omega)) ⟨vp_in_nI (by omega) (by decide), ?_⟩
      rw [nI_clamp (by omega), ho.1.1]
      refine xw_shown hx ho.1.2 ?_
      unfold qq_ix at h
      cases hs : qq_sh kn dl x e with
      | false =>
        rw [hs] at h
        exact br_t rfl (nm_r (nI_1 i) (ih (i + 1) c n ho.2 (by omega) (by omega) h))
      | true =>
        rw [hs, if_pos rfl] at h
        refine br_f (by decide) ?_
        by_cases hc : nI c = p
        · rw [if_pos hc] at h
          exact br_t hc h
        · rw [if_neg hc] at h
          exact br_f hc (nm_r (nI_1 c) (nm_r (nI_1 i) (ih (i + 1) (c + 1) n ho.2 (by omega) (by omega) h)))
theorem xw_ix {L : List Nat} (hx : x < 3) (hN : L.length ≤ 30) (ho : qq_at od 0 L) (h : post (qq_ix (qq_sh kn dl x) p L 0 0)) : wpX_indexAt post (fm, nI L.length, kn, cl, nd, sx, tx, mk, dl, od) (nI x) p := by
  unfold wpX_indexAt
  exact ⟨L.length + 1, xw_ix5 hx hN L 0 0 _ ho (by omega) (by omega) h⟩
theorem xw_len14 (hx : x < 3) (hN : N ≤ 30) : ∀ (r : List Nat) (i c n : Nat), qq_at od i r → i + r.length = N → r.length < n → post (nI (c + r.countP (qq_sh kn dl x))) → wX_length_14 post (nI x) fm (nI N) kn cl nd sx tx mk dl od n (nI c) (nI i) := by
  intro r
  induction r with
  | nil =>
    intro i c n ho hi hn h
    cases n with
    | zero => cases hn
    | succ n => exact br_t (nI_le (by simp at hi; omega) (by simp at hi; omega)) h
  | cons e r ih =>
    intro i c n ho hi hn h
    rw [List.length_cons] at hi hn
    cases n with
    | zero => cases hn
    | succ n =>
      refine br_f (nI_ge (by omega) (by omega)) ⟨vp_in_nI (by omega) (by decide), ?_⟩
      rw [nI_clamp (by omega), ho.1.1]
      refine xw_shown hx ho.1.2 ?_
      cases hs : qq_sh kn dl x e with
      | false =>
        rw [List.countP_cons_of_neg (by simp [hs])] at h
        exact br_t rfl (nm_r (nI_1 i) (ih (i + 1) c n ho.2 (by omega) (by omega) h))
      | true =>
        rw [List.countP_cons_of_pos hs, show c + (r.countP (qq_sh kn dl x) + 1) = c + 1 + r.countP (qq_sh kn dl x) by omega] at h
        exact br_f (by decide) (nm_r (nI_1 c) (nm_r (nI_1 i) (ih (i + 1) (c + 1) n ho.2 (by omega) (by omega) h)))
theorem xw_len {L : List Nat} (hx : x < 3) (hN : L.length ≤ 30) (ho : qq_at od 0 L) (h : post (nI (L.countP (qq_sh kn dl x)))) : wpX_length post (fm, nI L.length, kn, cl, nd, sx, tx, mk, dl, od) (nI x) := by
  unfold wpX_length
  dsimp only
  exact xr_t hx (br_f (by decide) ⟨L.length + 1, xw_len14 hx hN L 0 0 _ ho (by omega) (by omega) (by rw [Nat.zero_add]; exact h)⟩)
theorem xw_el14 (hx : x < 3) (hN : N ≤ 30) : ∀ (r : List Nat) (i c n : Nat), qq_at od i r → i + r.length = N → r.length < n → post (nI (c + r.countP (fun e => bt (kn x) e))) → wX_elements_14 post (nI x) fm (nI N) kn cl nd sx tx mk dl od n (nI c) (nI i) := by
  intro r
  induction r with
  | nil =>
    intro i c n ho hi hn h
    cases n with
    | zero => cases hn
    | succ n => exact br_t (nI_le (by simp at hi; omega) (by simp at hi; omega)) h
  | cons e r ih =>
    intro i c n ho hi hn h
    rw [List.length_cons] at hi hn
    have he := ho.1.2
    cases n with
    | zero => cases hn
    | succ n =>
      refine br_f (nI_ge (by omega) (by omega)) ⟨vp_in_nI (by omega) (by decide), ?_⟩
      rw [nI_clamp (by omega), ho.1.1]
      refine xw_knows hx (by omega) ?_
      cases hs : bt (kn x) e with
      | false =>
        rw [List.countP_cons_of_neg (by simp [hs])] at h
        exact br_t rfl (nm_r (nI_1 i) (ih (i + 1) c n ho.2 (by omega) (by omega) h))
      | true =>
        rw [List.countP_cons_of_pos hs, show c + (r.countP (fun e => bt (kn x) e) + 1) = c + 1 + r.countP (fun e => bt (kn x) e) by omega] at h
        exact br_f (by decide) (nm_r (nI_1 c) (nm_r (nI_1 i) (ih (i + 1) (c + 1) n ho.2 (by omega) (by omega) h)))
theorem xw_el {L : List Nat} (hx : x < 3) (hN : L.length ≤ 30) (ho : qq_at od 0 L) (h : post (nI (L.countP (fun e => bt (kn x) e)))) : wpX_elements post (fm, nI L.length, kn, cl, nd, sx, tx, mk, dl, od) (nI x) := by
  unfold wpX_elements
  dsimp only
  exact xr_t hx (br_f (by decide) ⟨L.length + 1, xw_el14 hx hN L 0 0 _ ho (by omega) (by omega) (by rw [Nat.zero_add]; exact h)⟩)
theorem xw_pl15 (hx : x < 3) (hN : N ≤ 30) : ∀ (r : List Nat) (i c n : Nat), qq_at od i r → i + r.length = N → r.length < n → post (qq_pl (qq_sh kn dl x) p r c) → wX_placeOf_15 post (nI x) p fm (nI N) kn cl nd sx tx mk dl od n (nI c) (nI i) := by
  intro r
  induction r with
  | nil =>
    intro i c n ho hi hn h
    cases n with
    | zero => cases hn
    | succ n => exact br_t (nI_le (by simp at hi; omega) (by simp at hi; omega)) h
  | cons e r ih =>
    intro i c n ho hi hn h
    rw [List.length_cons] at hi hn
    cases n with
    | zero => cases hn
    | succ n =>
      refine br_f (nI_ge (by omega) (by omega)) ⟨vp_in_nI (by omega) (by decide), ?_⟩
      rw [nI_clamp (by omega), ho.1.1]
      refine xw_shown hx ho.1.2 ?_
      unfold qq_pl at h
      cases hs : qq_sh kn dl x e with
      | false =>
        rw [hs] at h
        exact br_t rfl (nm_r (nI_1 i) (ih (i + 1) c n ho.2 (by omega) (by omega) h))
      | true =>
        rw [hs, if_pos rfl] at h
        refine br_f (by decide) ⟨vp_in_nI (by omega) (by decide), ?_⟩
        by_cases hc : nI e = p
        · rw [if_pos hc] at h
          exact br_t hc h
        · rw [if_neg hc] at h
          exact br_f hc (nm_r (nI_1 c) (nm_r (nI_1 i) (ih (i + 1) (c + 1) n ho.2 (by omega) (by omega) h)))
theorem xw_pl {L : List Nat} (hx : x < 3) (hN : L.length ≤ 30) (ho : qq_at od 0 L) (h : post (qq_pl (qq_sh kn dl x) p L 0)) : wpX_placeOf post (fm, nI L.length, kn, cl, nd, sx, tx, mk, dl, od) (nI x) p := by
  unfold wpX_placeOf
  dsimp only
  exact xr_t hx (br_f (by decide) ⟨L.length + 1, xw_pl15 hx hN L 0 0 _ ho (by omega) (by omega) h⟩)
theorem xw_at_f {L A B : List Nat} {e : Nat} (hx : x < 3) (hN : L.length ≤ 30) (ho : qq_at od 0 L) (hL : L = A ++ e :: B) (he : qq_sh kn dl x e = true) (hp : nI (A.countP (qq_sh kn dl x)) = p) (h : post (sx e)) : wpX_at post (fm, nI L.length, kn, cl, nd, sx, tx, mk, dl, od) (nI x) p := by
  unfold wpX_at
  dsimp only
  refine xr_t hx (br_f (by decide) (xw_ix hx hN ho ?_))
  have hA : A.length < 30 := by rw [hL] at hN; simp at hN; omega
  rw [hL] at ho
  obtain ⟨h1, h2⟩ := qq_at_mid ho
  rw [hL, qq_ix_f _ _ _ _ he A 0 0 (by omega) (by rw [Nat.zero_add]; exact hp), Nat.zero_add]
  refine br_f (fun z => ?_) ⟨vp_in_nI hA (by decide), ?_⟩
  · exact nI_pos (n := A.length) (by omega) (by rw [z]; decide)
  · rw [nI_clamp (by omega), h1, nI_clamp (by omega)]
    exact ⟨vp_in_nI h2 (by decide), h⟩
theorem xw_at_n {L : List Nat} (hx : x < 3) (hN : L.length ≤ 30) (ho : qq_at od 0 L) (hn : ∀ A e B, L = A ++ e :: B → qq_sh kn dl x e = true → ¬ nI (A.countP (qq_sh kn dl x)) = p) (h : post (-1)) : wpX_at post (fm, nI L.length, kn, cl, nd, sx, tx, mk, dl, od) (nI x) p := by
  unfold wpX_at
  dsimp only
  refine xr_t hx (br_f (by decide) (xw_ix hx hN ho ?_))
  rw [qq_ix_n _ _ L 0 0 (fun A e B h1 h2 => by rw [Nat.zero_add]; exact hn A e B h1 h2)]
  exact br_t rfl h
theorem xw_mb_f {L A B : List Nat} {e : Nat} (hx : x < 3) (hN : L.length ≤ 30) (ho : qq_at od 0 L) (hL : L = A ++ e :: B) (he : qq_sh kn dl x e = true) (hp : nI (A.countP (qq_sh kn dl x)) = p) (h : post (nI e)) : wpX_madeBy post (fm, nI L.length, kn, cl, nd, sx, tx, mk, dl, od) (nI x) p := by
  unfold wpX_madeBy
  dsimp only
  refine xr_t hx (br_f (by decide) (xw_ix hx hN ho ?_))
  have hA : A.length < 30 := by rw [hL] at hN; simp at hN; omega
  rw [hL] at ho
  obtain ⟨h1, h2⟩ := qq_at_mid ho
  rw [hL, qq_ix_f _ _ _ _ he A 0 0 (by omega) (by rw [Nat.zero_add]; exact hp), Nat.zero_add]
  refine br_f (fun z => ?_) ⟨vp_in_nI hA (by decide), ?_⟩
  · exact nI_pos (n := A.length) (by omega) (by rw [z]; decide)
  · rw [nI_clamp (by omega), h1]
    exact h
theorem xw_mb_n {L : List Nat} (hx : x < 3) (hN : L.length ≤ 30) (ho : qq_at od 0 L) (hn : ∀ A e B, L = A ++ e :: B → qq_sh kn dl x e = true → ¬ nI (A.countP (qq_sh kn dl x)) = p) (h : post (-1)) : wpX_madeBy post (fm, nI L.length, kn, cl, nd, sx, tx, mk, dl, od) (nI x) p := by
  unfold wpX_madeBy
  dsimp only
  refine xr_t hx (br_f (by decide) (xw_ix hx hN ho ?_))
  rw [qq_ix_n _ _ L 0 0 (fun A e B h1 h2 => by rw [Nat.zero_add]; exact hn A e B h1 h2)]
  exact br_t rfl h
end
