/-! the relation, and the methods that only read -/
def qq_H (m : Nat) (kn cl sx tx od sy ty : Nat → Int32) (t w c : Nat → Nat) (L : List Nat) : Prop :=
  qq_at od 0 L ∧ (∀ e, e < m → ¬ sy e < 0 → sx e = sy e ∧ tx e = ty e) ∧ (∀ e, (m ≤ e ∨ sy e < 0) → tx e = 0) ∧ (∀ x, x < 3 → cl x = nI (c x) ∧ c x ≤ m) ∧ (∀ x e, x < 3 → e < m → ¬ sy e < 0 → bt (kn x) e = true → t e ≤ c x) ∧ (∀ x d, x < 3 → d < 32 → bt (kn x) d = true → d < m) ∧ (∀ e, e < m → ¬ sy e < 0 → bt (kn (w e)) e = true)
def i_Rel (_ : Nat) (u : SX) (v : SY) : Prop :=
  ∃ (m : Nat) (kn cl nd mk sx tx dl od sy lk ty : Nat → Int32) (t w c pr : Nat → Nat) (Q : Nat → List Nat) (L : List Nat), u = (nI m, nI L.length, kn, cl, nd, sx, tx, mk, dl, od) ∧ v = (nI m, sy, lk, mk, ty, nd, kn, cl) ∧ qq_G m sy lk ty mk dl t w pr Q L ∧ qq_H m kn cl sx tx od sy ty t w c L
theorem i_up {k : Nat} {u : SX} {v : SY} (h : i_Rel k u v) : i_Rel (k + 4) u v := h
theorem i_vc0 : wpX_init (fun u => wpY_init (fun v => i_Rel 0 u v)) := by
  unfold wpX_init wpY_init
  refine ⟨0, (fun _ => 0), (fun _ => 0), (fun _ => 0), (fun _ => 0), (fun _ => 0), (fun _ => 0), (fun _ => 0), (fun _ => 0), (fun _ => 0), (fun _ => 0), (fun _ => 0), (fun _ => 0), (fun _ => 0), (fun _ => 0), (fun _ => 0), (fun _ => []), [], rfl, rfl, ?_, ?_⟩
  · refine ⟨by decide, ⟨rfl, fun e he => absurd he (Nat.not_lt_zero e)⟩, fun e f he => absurd he (Nat.not_lt_zero e), ?_, List.Pairwise.nil, ?_⟩
    · intro e d _ _
      dsimp only
      rw [b_0]
      constructor
      · intro h; cases h
      · intro h; exact absurd h.1 (Nat.not_lt_zero d)
    · exact List.Perm.refl _
  · refine ⟨trivial, fun e he => absurd he (Nat.not_lt_zero e), fun e _ => rfl, fun x _ => ⟨rfl, Nat.le_refl 0⟩, fun x e _ he => absurd he (Nat.not_lt_zero e), ?_, fun e he => absurd he (Nat.not_lt_zero e)⟩
    intro x d _ _ h
    dsimp only at h
    rw [b_0] at h
    cases h
theorem i_vc_events {k : Nat} {u : SX} {v : SY} (I : i_Rel k u v) (hk : k + 4 ≤ 2048) : wpX_events (fun r => wpY_events (fun r' => r' = r ∧ i_Rel (k + 4) u v) v) u := by
  have J := i_up I
  obtain ⟨m, kn, cl, nd, mk, sx, tx, dl, od, sy, lk, ty, t, w, c, pr, Q, L, rfl, rfl, hG, hH⟩ := I
  exact ⟨rfl, J⟩
theorem i_vc_known {k : Nat} {u : SX} {v : SY} (I : i_Rel k u v) (hk : k + 4 ≤ 2048) (v1 : Int32) : wpX_known (fun r => wpY_known (fun r' => r' = r ∧ i_Rel (k + 4) u v) v v1) u v1 := by
  have J := i_up I
  obtain ⟨m, kn, cl, nd, mk, sx, tx, dl, od, sy, lk, ty, t, w, c, pr, Q, L, rfl, rfl, hG, hH⟩ := I
  unfold wpX_known wpY_known
  dsimp only
  rcases pk_ix v1 (n := 3) (by decide) with h | h | ⟨x, hx, rfl⟩
  · exact xr_f (Or.inl h) (br_t rfl (yr_f (Or.inl h) (br_t rfl ⟨rfl, J⟩)))
  · exact xr_f (Or.inr h) (br_t rfl (yr_f (Or.inr h) (br_t rfl ⟨rfl, J⟩)))
  · have hv : vp_in (nI x) 3 := vp_in_nI hx (by decide)
    exact xr_t hx (br_f (by decide) ⟨hv, yr_t hx (br_f (by decide) ⟨hv, rfl, J⟩)⟩)
theorem i_vc_clock {k : Nat} {u : SX} {v : SY} (I : i_Rel k u v) (hk : k + 4 ≤ 2048) (v1 : Int32) : wpX_clock (fun r => wpY_clock (fun r' => r' = r ∧ i_Rel (k + 4) u v) v v1) u v1 := by
  have J := i_up I
  obtain ⟨m, kn, cl, nd, mk, sx, tx, dl, od, sy, lk, ty, t, w, c, pr, Q, L, rfl, rfl, hG, hH⟩ := I
  unfold wpX_clock wpY_clock
  dsimp only
  rcases pk_ix v1 (n := 3) (by decide) with h | h | ⟨x, hx, rfl⟩
  · exact xr_f (Or.inl h) (br_t rfl (yr_f (Or.inl h) (br_t rfl ⟨rfl, J⟩)))
  · exact xr_f (Or.inr h) (br_t rfl (yr_f (Or.inr h) (br_t rfl ⟨rfl, J⟩)))
  · have hv : vp_in (nI x) 3 := vp_in_nI hx (by decide)
    exact xr_t hx (br_f (by decide) ⟨hv, yr_t hx (br_f (by decide) ⟨hv, rfl, J⟩)⟩)
theorem qq_l30 {m : Nat} {sy lk ty mk dl : Nat → Int32} {t w pr : Nat → Nat} {Q : Nat → List Nat} {L : List Nat} (hG : qq_G m sy lk ty mk dl t w pr Q L) : L.length ≤ 30 := Nat.le_trans (qq_len hG.2.2.2.2.2) hG.1
theorem i_vc_length {k : Nat} {u : SX} {v : SY} (I : i_Rel k u v) (hk : k + 4 ≤ 2048) (v1 : Int32) : wpX_length (fun r => wpY_length (fun r' => r' = r ∧ i_Rel (k + 4) u v) v v1) u v1 := by
  have J := i_up I
  obtain ⟨m, kn, cl, nd, mk, sx, tx, dl, od, sy, lk, ty, t, w, c, pr, Q, L, rfl, rfl, hG, hH⟩ := I
  have bad : (v1 < 0 ∨ nI 3 ≤ v1) → wpX_length (fun r => wpY_length (fun r' => r' = r ∧ i_Rel (k + 4) (nI m, nI L.length, kn, cl, nd, sx, tx, mk, dl, od) (nI m, sy, lk, mk, ty, nd, kn, cl)) (nI m, sy, lk, mk, ty, nd, kn, cl) v1) (nI m, nI L.length, kn, cl, nd, sx, tx, mk, dl, od) v1 := by
    intro h
    unfold wpX_length
    dsimp only
    exact xr_f h (br_t rfl (yw_len0 h ⟨rfl, J⟩))
  rcases pk_ix v1 (n := 3) (by decide) with h | h | ⟨x, hx, rfl⟩
  · exact bad (Or.inl h)
  · exact bad (Or.inr h)
  · exact xw_len hx (qq_l30 hG) hH.1 (yw_len hx hG ⟨rfl, J⟩)
theorem i_vc_elements {k : Nat} {u : SX} {v : SY} (I : i_Rel k u v) (hk : k + 4 ≤ 2048) (v1 : Int32) : wpX_elements (fun r => wpY_elements (fun r' => r' = r ∧ i_Rel (k + 4) u v) v v1) u v1 := by
  have J := i_up I
  obtain ⟨m, kn, cl, nd, mk, sx, tx, dl, od, sy, lk, ty, t, w, c, pr, Q, L, rfl, rfl, hG, hH⟩ := I
  have bad : (v1 < 0 ∨ nI 3 ≤ v1) → wpX_elements (fun r => wpY_elements (fun r' => r' = r ∧ i_Rel (k + 4) (nI m, nI L.length, kn, cl, nd, sx, tx, mk, dl, od) (nI m, sy, lk, mk, ty, nd, kn, cl)) (nI m, sy, lk, mk, ty, nd, kn, cl) v1) (nI m, nI L.length, kn, cl, nd, sx, tx, mk, dl, od) v1 := by
    intro h
    unfold wpX_elements
    dsimp only
    exact xr_f h (br_t rfl (yw_els0 h ⟨rfl, J⟩))
  rcases pk_ix v1 (n := 3) (by decide) with h | h | ⟨x, hx, rfl⟩
  · exact bad (Or.inl h)
  · exact bad (Or.inr h)
  · exact xw_el hx (qq_l30 hG) hH.1 (yw_els hx hG ⟨rfl, J⟩)
theorem qq_found (s : Nat → Bool) (L : List Nat) (p : Int32) : (∃ A e B, L = A ++ e :: B ∧ s e = true ∧ nI (A.countP s) = p) ∨ (∀ A e B, L = A ++ e :: B → s e = true → ¬ nI (A.countP s) = p) := by
  by_cases h : ∃ A e B, L = A ++ e :: B ∧ s e = true ∧ nI (A.countP s) = p
  · exact Or.inl h
  · exact Or.inr (fun A e B h1 h2 h3 => h ⟨A, e, B, h1, h2, h3⟩)
theorem i_vc_at {k : Nat} {u : SX} {v : SY} (I : i_Rel k u v) (hk : k + 4 ≤ 2048) (v1 : Int32) (v2 : Int32) : wpX_at (fun r => wpY_at (fun r' => r' = r ∧ i_Rel (k + 4) u v) v v1 v2) u v1 v2 := by
  have J := i_up I
  obtain ⟨m, kn, cl, nd, mk, sx, tx, dl, od, sy, lk, ty, t, w, c, pr, Q, L, rfl, rfl, hG, hH⟩ := I
  have bad : (v1 < 0 ∨ nI 3 ≤ v1) → wpX_at (fun r => wpY_at (fun r' => r' = r ∧ i_Rel (k + 4) (nI m, nI L.length, kn, cl, nd, sx, tx, mk, dl, od) (nI m, sy, lk, mk, ty, nd, kn, cl)) (nI m, sy, lk, mk, ty, nd, kn, cl) v1 v2) (nI m, nI L.length, kn, cl, nd, sx, tx, mk, dl, od) v1 v2 := by
    intro h
    unfold wpX_at wpY_at wY_at_18
    dsimp only
    exact xr_f h (br_t rfl (yr_f h (br_t rfl (br_f (by decide) ⟨rfl, J⟩))))
  rcases pk_ix v1 (n := 3) (by decide) with h | h | ⟨x, hx, rfl⟩
  · exact bad (Or.inl h)
  · exact bad (Or.inr h)
  · rcases qq_found (qq_sh kn dl x) L v2 with ⟨A, e, B, h1, h2, h3⟩ | h
    · have he := (qq_mem hG.2.2.2.2.2).mp (show e ∈ L by rw [h1]; simp)
      exact xw_at_f hx (qq_l30 hG) hH.1 h1 h2 h3 (yw_at_f hx hG h1 h2 h3 ⟨((hH.2.1 e he.1 (qq_el_t.mp he.2)).1).symm, J⟩)
    · exact xw_at_n hx (qq_l30 hG) hH.1 h (yw_at_n hx hG h ⟨rfl, J⟩)
theorem i_vc_madeBy {k : Nat} {u : SX} {v : SY} (I : i_Rel k u v) (hk : k + 4 ≤ 2048) (v1 : Int32) (v2 : Int32) : wpX_madeBy (fun r => wpY_madeBy (fun r' => r' = r ∧ i_Rel (k + 4) u v) v v1 v2) u v1 v2 := by
  have J := i_up I
  obtain ⟨m, kn, cl, nd, mk, sx, tx, dl, od, sy, lk, ty, t, w, c, pr, Q, L, rfl, rfl, hG, hH⟩ := I
  have bad : (v1 < 0 ∨ nI 3 ≤ v1) → wpX_madeBy (fun r => wpY_madeBy (fun r' => r' = r ∧ i_Rel (k + 4) (nI m, nI L.length, kn, cl, nd, sx, tx, mk, dl, od) (nI m, sy, lk, mk, ty, nd, kn, cl)) (nI m, sy, lk, mk, ty, nd, kn, cl) v1 v2) (nI m, nI L.length, kn, cl, nd, sx, tx, mk, dl, od) v1 v2 := by
    intro h
    unfold wpX_madeBy wpY_madeBy
    dsimp only
    exact xr_f h (br_t rfl (yr_f h (br_t rfl ⟨rfl, J⟩)))
  rcases pk_ix v1 (n := 3) (by decide) with h | h | ⟨x, hx, rfl⟩
  · exact bad (Or.inl h)
  · exact bad (Or.inr h)
  · rcases qq_found (qq_sh kn dl x) L v2 with ⟨A, e, B, h1, h2, h3⟩ | h
    · refine xw_mb_f hx (qq_l30 hG) hH.1 h1 h2 h3 ?_
      unfold wpY_madeBy
      dsimp only
      exact yr_t hx (br_f (by decide) (yw_el_f hx hG h1 h2 h3 ⟨rfl, J⟩))
    · refine xw_mb_n hx (qq_l30 hG) hH.1 h ?_
      unfold wpY_madeBy
      dsimp only
      exact yr_t hx (br_f (by decide) (yw_el_n hx hG h ⟨rfl, J⟩))
theorem i_vc_placeOf {k : Nat} {u : SX} {v : SY} (I : i_Rel k u v) (hk : k + 4 ≤ 2048) (v1 : Int32) (v2 : Int32) : wpX_placeOf (fun r => wpY_placeOf (fun r' => r' = r ∧ i_Rel (k + 4) u v) v v1 v2) u v1 v2 := by
  have J := i_up I
  obtain ⟨m, kn, cl, nd, mk, sx, tx, dl, od, sy, lk, ty, t, w, c, pr, Q, L, rfl, rfl, hG, hH⟩ := I
  have hm := hG.1
  have hPm := hG.2.2.2.2.2
  have bad : (v1 < 0 ∨ nI 3 ≤ v1) → wpX_placeOf (fun r => wpY_placeOf (fun r' => r' = r ∧ i_Rel (k + 4) (nI m, nI L.length, kn, cl, nd, sx, tx, mk, dl, od) (nI m, sy, lk, mk, ty, nd, kn, cl)) (nI m, sy, lk, mk, ty, nd, kn, cl) v1 v2) (nI m, nI L.length, kn, cl, nd, sx, tx, mk, dl, od) v1 v2 := by
    intro h
    unfold wpX_placeOf wpY_placeOf
    dsimp only
    exact xr_f h (br_t rfl (yr_f h (br_t rfl ⟨rfl, J⟩)))
  rcases pk_ix v1 (n := 3) (by decide) with h | h | ⟨x, hx, rfl⟩
  · exact bad (Or.inl h)
  · exact bad (Or.inr h)
  · have out : (v2 < 0 ∨ nI m ≤ v2) → wpX_placeOf (fun r => wpY_placeOf (fun r' => r' = r ∧ i_Rel (k + 4) (nI m, nI L.length, kn, cl, nd, sx, tx, mk, dl, od) (nI m, sy, lk, mk, ty, nd, kn, cl)) (nI m, sy, lk, mk, ty, nd, kn, cl) (nI x) v2) (nI m, nI L.length, kn, cl, nd, sx, tx, mk, dl, od) (nI x) v2 := by
      intro h
      refine xw_pl hx (qq_l30 hG) hH.1 ?_
      rw [qq_pl_n]
      · unfold wpY_placeOf
        dsimp only
        exact yr_t hx (br_f (by decide) (yw_stands0 hm h (br_t rfl ⟨rfl, J⟩)))
      · intro e he _ z
        have hem := ((qq_mem hPm).mp he).1
        subst z
        rcases h with h | h
        · exact nI_pos (by omega) h
        · exact nI_ge hem (by omega) h
    rcases pk_ix v2 (n := m) (by omega) with h | h | ⟨e, he, rfl⟩
    · exact out (Or.inl h)
    · exact out (Or.inr h)
    · refine xw_pl hx (qq_l30 hG) hH.1 ?_
      unfold wpY_placeOf
      dsimp only
      refine yr_t hx (br_f (by decide) (yw_stands hx hG he ?_))
      cases hs : qq_el sy e && qq_sh kn dl x e with
      | false =>
        rw [qq_pl_n]
        · exact br_t rfl ⟨rfl, J⟩
        · intro f hf hsf z
          have hfm := (qq_mem hPm).mp hf
          have hfe := (nI_eq (by omega) (by omega)).mp z
          subst hfe
          rw [hfm.2, hsf] at hs
          cases hs
      | true =>
        rw [Bool.and_eq_true] at hs
        obtain ⟨A, B, hL⟩ := List.append_of_mem ((qq_mem hPm).mpr ⟨he, hs.1⟩)
        have hP := hG.2.2.2.2.1
        rw [hL, List.pairwise_append] at hP
        refine br_f (by decide) (yw_rank hx hG hL ⟨?_, J⟩)
        rw [hL, qq_pl_f _ _ _ hs.2 (by omega) A 0, Nat.zero_add]
        intro a ha
        constructor
        · intro z
          subst z
          have h2 := hP.2.2 a ha a List.mem_cons_self
          rw [qq_bf_irr] at h2
          cases h2
        · have := ((qq_mem hPm).mp (show a ∈ L by rw [hL]; exact List.mem_append_left _ ha)).1
          omega
