/-! same -/
section
variable {m x : Nat} {sy lk mk ty nd kn cl dl sx tx od : Nat → Int32} {t w c pr : Nat → Nat} {Q : Nat → List Nat} {L : List Nat}
theorem vw_at (hx : x < 3) (hG : qq_G m sy lk ty mk dl t w pr Q L) (hH : qq_H m kn cl sx tx od sy ty t w c L) (p : Nat) (hp : p < 2 ^ 31) : ∃ r : Int32, (∀ post : Int32 → Prop, post r → wpX_at post (nI m, nI L.length, kn, cl, nd, sx, tx, mk, dl, od) (nI x) (nI p)) ∧ (∀ post : Int32 → Prop, post r → wpY_at post (nI m, sy, lk, mk, ty, nd, kn, cl) (nI x) (nI p)) ∧ (L.countP (qq_sh kn dl x) ≤ p → r = -1) := by
  rcases qq_found (qq_sh kn dl x) L (nI p) with ⟨A, e, B, h1, h2, h3⟩ | h
  · have he := (qq_mem hG.2.2.2.2.2).mp (show e ∈ L by rw [h1]; simp)
    have hs := (hH.2.1 e he.1 (qq_el_t.mp he.2)).1
    refine ⟨sy e, fun post hp => xw_at_f hx (qq_l30 hG) hH.1 h1 h2 h3 (by rw [hs]; exact hp), fun post hp => yw_at_f hx hG h1 h2 h3 hp, ?_⟩
    intro hle
    have hlt := qq_lt h1 h2
    have hl := qq_l30 hG
    have hc := List.countP_le_length (p := qq_sh kn dl x) (l := L)
    rw [nI_eq (by omega) hp] at h3
    omega
  · exact ⟨-1, fun post hp => xw_at_n hx (qq_l30 hG) hH.1 h hp, fun post hp => yw_at_n hx hG h hp, fun _ => rfl⟩
theorem yw_same0 {x1 x2 : Int32} {post : Int32 → Prop} {p : Nat} (h : post 0) (n : Nat) : wY_same_38 post x1 x2 (nI m) sy lk mk ty nd kn cl (n + 1) 0 (nI p) :=
  br_c (fun _ => ⟨rfl, h⟩) (fun _ => br_t rfl ⟨rfl, h⟩)
theorem yw_same1 {y : Nat} (hx : x < 3) (hy : y < 3) (hG : qq_G m sy lk ty mk dl t w pr Q L) (hH : qq_H m kn cl sx tx od sy ty t w c L) {post : Int32 → Prop} (h : post 1) : ∀ (d p n : Nat), p + d = 30 → d < n → L.countP (qq_sh kn dl x) ≤ p → L.countP (qq_sh kn dl y) ≤ p → wY_same_38 post (nI x) (nI y) (nI m) sy lk mk ty nd kn cl n 1 (nI p) := by
  intro d
  induction d with
  | zero =>
    intro p n hp hn h1 h2
    cases n with
    | zero => cases hn
    | succ n => exact br_t (nI_le (a := 30) (by omega) (by omega)) ⟨rfl, h⟩
  | succ d ih =>
    intro p n hp hn h1 h2
    cases n with
    | zero => cases hn
    | succ n =>
      refine br_f (nI_ge (b := 30) (by omega) (by decide)) (br_f (by decide) ?_)
      obtain ⟨r1, _, a2, a3⟩ := vw_at (nd := nd) hx hG hH p (by omega)
      obtain ⟨r2, _, b2, b3⟩ := vw_at (nd := nd) hy hG hH p (by omega)
      refine a2 _ (b2 _ ?_)
      exact br_t ((a3 h1).trans (b3 h2).symm) (nm_r (nI_1 p) (ih (p + 1) n (by omega) (by omega) (by omega) (by omega)))
theorem vw_same {y E : Nat} (hx : x < 3) (hy : y < 3) (hG : qq_G m sy lk ty mk dl t w pr Q L) (hH : qq_H m kn cl sx tx od sy ty t w c L) (hE : L.countP (qq_sh kn dl x) = E) (hE2 : L.countP (qq_sh kn dl y) = E) (hE3 : E ≤ 30) : ∀ d p : Nat, p + d = E → ∃ b : Bool, (∀ (post : Int32 → Prop) (n : Nat), d < n → post (qq_b b) → wX_same_38 post (nI x) (nI y) (nI E) (nI m) (nI L.length) kn cl nd sx tx mk dl od n (nI p)) ∧ (∀ (post : Int32 → Prop) (n : Nat), 31 - p < n → post (qq_b b) → wY_same_38 post (nI x) (nI y) (nI m) sy lk mk ty nd kn cl n 1 (nI p)) := by
  intro d
  induction d with
  | zero =>
    intro p hp
    refine ⟨true, fun post n hn h => ?_, fun post n hn h => ?_⟩
    · cases n with
      | zero => cases hn
      | succ n => exact br_t (nI_le (by omega) (by omega)) h
    · exact yw_same1 hx hy hG hH h (30 - p) p n (by omega) (by omega) (by omega) (by omega)
  | succ d ih =>
    intro p hp
    obtain ⟨r1, a1, a2, _⟩ := vw_at (nd := nd) hx hG hH p (by omega)
    obtain ⟨r2, b1, b2, _⟩ := vw_at (nd := nd) hy hG hH p (by omega)
    by_cases hr : r1 = r2
    · obtain ⟨b, i1, i2⟩ := ih (p + 1) (by omega)
      refine ⟨b, fun post n hn h => ?_, fun post n hn h => ?_⟩
      · cases n with
        | zero => cases hn
        | succ n => exact br_f (nI_ge (by omega) (by omega)) (a1 _ (b1 _ (br_t hr (nm_r (nI_1 p) (i1 post n (by omega) h)))))
      · cases n with
        | zero => cases hn
        | succ n => exact br_f (nI_ge (b := 30) (by omega) (by decide)) (br_f (by decide) (a2 _ (b2 _ (br_t hr (nm_r (nI_1 p) (i2 post n (by omega) h))))))
    · refine ⟨false, fun post n hn h => ?_, fun post n hn h => ?_⟩
      · cases n with
        | zero => cases hn
        | succ n => exact br_f (nI_ge (by omega) (by omega)) (a1 _ (b1 _ (br_f hr h)))
      · cases n with
        | zero => cases hn
        | succ n =>
          cases n with
          | zero => omega
          | succ n => exact br_f (nI_ge (b := 30) (by omega) (by decide)) (br_f (by decide) (a2 _ (b2 _ (br_f hr (nm_r (nI_1 p) (yw_same0 h n))))))
end
theorem i_vc_same {k : Nat} {u : SX} {v : SY} (I : i_Rel k u v) (hk : k + 4 ≤ 2048) (v1 : Int32) (v2 : Int32) : wpX_same (fun r => wpY_same (fun r' => r' = r ∧ i_Rel (k + 4) u v) v v1 v2) u v1 v2 := by
  have J := i_up I
  obtain ⟨m, kn, cl, nd, mk, sx, tx, dl, od, sy, lk, ty, t, w, c, pr, Q, L, rfl, rfl, hG, hH⟩ := I
  unfold wpX_same wpY_same
  dsimp only
  have h0 : ∀ post : Int32 → Prop, post 0 → ∃ n38 : Nat, wY_same_38 post v1 v2 (nI m) sy lk mk ty nd kn cl n38 0 0 := fun post h => ⟨1, yw_same0 (p := 0) h 0⟩
  have bad1 : (v1 < 0 ∨ nI 3 ≤ v1) ∨ ∃ x, x < 3 ∧ v1 = nI x := by
    rcases pk_ix v1 (n := 3) (by decide) with h | h | h
    · exact Or.inl (Or.inl h)
    · exact Or.inl (Or.inr h)
    · exact Or.inr h
  have bad2 : (v2 < 0 ∨ nI 3 ≤ v2) ∨ ∃ x, x < 3 ∧ v2 = nI x := by
    rcases pk_ix v2 (n := 3) (by decide) with h | h | h
    · exact Or.inl (Or.inl h)
    · exact Or.inl (Or.inr h)
    · exact Or.inr h
  rcases bad1 with h | ⟨x, hx, rfl⟩
  · exact xr_f h (br_t rfl (yr_f h (br_t rfl (h0 _ ⟨rfl, J⟩))))
  · rcases bad2 with h | ⟨y, hy, rfl⟩
    · exact xr_t hx (br_f (by decide) (xr_f h (br_t rfl (yr_t hx (br_f (by decide) (yr_f h (br_t rfl (h0 _ ⟨rfl, J⟩))))))))
    · have hl := qq_l30 hG
      have c1 := List.countP_le_length (p := qq_sh kn dl x) (l := L)
      have c2 := List.countP_le_length (p := qq_sh kn dl y) (l := L)
      refine xr_t hx (br_f (by decide) (xr_t hy (br_f (by decide) (xw_len hx hl hH.1 (xw_len hy hl hH.1 ?_)))))
      by_cases he : L.countP (qq_sh kn dl x) = L.countP (qq_sh kn dl y)
      · obtain ⟨b, i1, i2⟩ := vw_same (nd := nd) hx hy hG hH rfl he.symm (by omega) (L.countP (qq_sh kn dl x)) 0 (by omega)
        refine br_t (by rw [he]) ⟨_, i1 _ (L.countP (qq_sh kn dl x) + 1) (by omega) ?_⟩
        exact yr_t hx (br_f (by decide) (yr_t hy (br_f (by decide) (yw_len hx hG (yw_len hy hG (br_t (by rw [he]) ⟨32, i2 _ 32 (by omega) ⟨rfl, J⟩⟩))))))
      · have hne : ¬ nI (L.countP (qq_sh kn dl x)) = nI (L.countP (qq_sh kn dl y)) := fun z => he ((nI_eq (by omega) (by omega)).mp z)
        exact br_f hne (yr_t hx (br_f (by decide) (yr_t hy (br_f (by decide) (yw_len hx hG (yw_len hy hG (br_f hne (h0 _ ⟨rfl, J⟩))))))))
