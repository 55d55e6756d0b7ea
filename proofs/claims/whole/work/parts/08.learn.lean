/-! learn and catchUp -/
theorem qq_uk {kn : Nat → Int32} {x y e f : Nat} (he : e < 32) (hf : f < 32) : bt (upd kn x (kn x ||| ((1 : Int32) <<< (nI e &&& 31))) y) f = (bt (kn y) f || (decide (y = x) && decide (f = e))) := by
  by_cases h : y = x
  · subst h
    rw [pk_us, qq_or he hf]
    simp
  · rw [pk_un h]
    simp [h]
theorem qq_us {f : Nat → Int32} {x : Nat} : upd f x (f x) = f := by
  funext j
  by_cases h : j = x
  · subst h; exact pk_us
  · exact pk_un h
section
variable {m x : Nat} {sy lk mk ty nd kn cl dl sx tx od : Nat → Int32} {t w c pr : Nat → Nat} {Q : Nat → List Nat} {L : List Nat}
theorem qq_Htake {e : Nat} {cl' : Nat → Int32} {c' : Nat → Nat} (hm : m ≤ 30) (he : e < m) (hH : qq_H m kn cl sx tx od sy ty t w c L) (h1 : ∀ y, y < 3 → cl' y = nI (c' y) ∧ c' y ≤ m) (h2 : ∀ y, y < 3 → c y ≤ c' y) (h3 : ¬ sy e < 0 → t e ≤ c' x) : qq_H m (upd kn x (kn x ||| ((1 : Int32) <<< (nI e &&& 31)))) cl' sx tx od sy ty t w c' L := by
  obtain ⟨a1, a2, a3, a4, a5, a6, a7⟩ := hH
  refine ⟨a1, a2, a3, h1, ?_, ?_, ?_⟩
  · intro y f hy hf hef hb
    rw [qq_uk (by omega) (by omega), Bool.or_eq_true, Bool.and_eq_true, decide_eq_true_iff, decide_eq_true_iff] at hb
    rcases hb with hb | ⟨rfl, rfl⟩
    · exact Nat.le_trans (a5 y f hy hf hef hb) (h2 y hy)
    · exact h3 hef
  · intro y d hy hd hb
    rw [qq_uk (by omega) hd, Bool.or_eq_true, Bool.and_eq_true, decide_eq_true_iff, decide_eq_true_iff] at hb
    rcases hb with hb | ⟨rfl, rfl⟩
    · exact a6 y d hy hd hb
    · exact he
  · intro f hf hef
    rw [qq_uk (by omega) (by omega), a7 f hf hef, Bool.true_or]
theorem vw_take {e : Nat} (hx : x < 3) (he : e < m) (hG : qq_G m sy lk ty mk dl t w pr Q L) (hH : qq_H m kn cl sx tx od sy ty t w c L) : ∃ (kn' cl' : Nat → Int32) (c' : Nat → Nat), qq_H m kn' cl' sx tx od sy ty t w c' L ∧ (∀ post : SX → Prop, post (nI m, nI L.length, kn', cl', nd, sx, tx, mk, dl, od) → wpX_take post (nI m, nI L.length, kn, cl, nd, sx, tx, mk, dl, od) (nI x) (nI e)) ∧ (∀ post : SY → Prop, post (nI m, sy, lk, mk, ty, nd, kn', cl') → wpY_raise post (nI m, sy, lk, mk, ty, nd, kn, cl) (nI x) (nI e)) := by
  have hm := hG.1
  have hv : vp_in (nI x) 3 := vp_in_nI hx (by decide)
  have hve : vp_in (nI e) 30 := vp_in_nI (by omega) (by decide)
  have ex : (nI x).toNatClampNeg = x := nI_clamp (by omega)
  have ee : (nI e).toNatClampNeg = e := nI_clamp (by omega)
  obtain ⟨hcx, hcm⟩ := hH.2.2.2.1 x hx
  by_cases hs : sy e < 0
  · have ht := hH.2.2.1 e (Or.inr hs)
    refine ⟨_, cl, c, qq_Htake (x := x) hm he hH hH.2.2.2.1 (fun _ _ => Nat.le_refl _) (fun z => absurd hs z), fun post h => ?_, fun post h => ?_⟩
    · unfold wpX_take
      dsimp only
      rw [ex, ee]
      refine ⟨hv, hv, nm_e ⟨hve, hv, br_t ?_ h⟩⟩
      rw [ht, hcx]
      exact nI_pos' (by omega)
    · unfold wpY_raise
      dsimp only
      rw [ex, ee]
      exact ⟨hv, hv, nm_e ⟨hve, br_t hs ⟨hv, hv, nm_r qq_us h⟩⟩⟩
  · obtain ⟨_, _, _, _, f5, _, _, f8, _⟩ := hG.2.1.2 e he hs
    obtain ⟨_, ht⟩ := hH.2.1 e he hs
    rw [f5] at ht
    by_cases hle : t e ≤ c x
    · have hle' : nI (t e) ≤ nI (c x) := nI_le hle (by omega)
      refine ⟨_, cl, c, qq_Htake (x := x) hm he hH hH.2.2.2.1 (fun _ _ => Nat.le_refl _) (fun _ => hle), fun post h => ?_, fun post h => ?_⟩
      · unfold wpX_take
        dsimp only
        rw [ex, ee]
        refine ⟨hv, hv, nm_e ⟨hve, hv, br_t ?_ h⟩⟩
        rw [ht, hcx]
        exact hle'
      · unfold wpY_raise
        dsimp only
        rw [ex, ee]
        refine ⟨hv, hv, nm_e ⟨hve, br_f hs ⟨hve, hv, br_t ?_ ⟨hv, hv, nm_r qq_us h⟩⟩⟩⟩
        rw [f5, hcx]
        exact hle'
    · have hle' : ¬ nI (t e) ≤ nI (c x) := nI_ge (by omega) (by omega)
      refine ⟨_, upd cl x (nI (t e)), fun y => if y = x then t e else c y, qq_Htake (x := x) hm he hH ?_ ?_ (fun _ => ?_), fun post h => ?_, fun post h => ?_⟩
      · intro y hy
        by_cases hyx : y = x
        · subst hyx
          rw [pk_us, if_pos rfl]
          exact ⟨rfl, f8⟩
        · rw [pk_un hyx, if_neg hyx]
          exact hH.2.2.2.1 y hy
      · intro y hy
        by_cases hyx : y = x
        · subst hyx
          rw [if_pos rfl]
          omega
        · rw [if_neg hyx]
          exact Nat.le_refl _
      · rw [if_pos rfl]
        exact Nat.le_refl _
      · unfold wpX_take
        dsimp only
        rw [ex, ee, ht]
        refine ⟨hv, hv, nm_e ⟨hve, hv, br_f ?_ ⟨hve, hv, nm_e h⟩⟩⟩
        rw [hcx]
        exact hle'
      · unfold wpY_raise
        dsimp only
        rw [ex, ee, f5]
        refine ⟨hv, hv, nm_e ⟨hve, br_f hs ⟨hve, hv, br_f ?_ ⟨hve, hv, nm_e h⟩⟩⟩⟩
        rw [hcx]
        exact hle'
theorem vw_cu {y : Nat} (hx : x < 3) (hy : y < 3) (hG : qq_G m sy lk ty mk dl t w pr Q L) : ∀ (d e n0 : Nat) (kn cl : Nat → Int32) (c : Nat → Nat), e + d = m → qq_H m kn cl sx tx od sy ty t w c L → ∃ (r : Int32) (kn' cl' : Nat → Int32) (c' : Nat → Nat), qq_H m kn' cl' sx tx od sy ty t w c' L ∧ (∀ (post : Int32 → SX → Prop) (n : Nat), d < n → post r (nI m, nI L.length, kn', cl', nd, sx, tx, mk, dl, od) → wX_catchUp_28 post (nI x) (nI y) n (nI n0) (nI e) (nI m) (nI L.length) kn cl nd sx tx mk dl od) ∧ (∀ (post : Int32 → SY → Prop) (n : Nat), d < n → post r (nI m, sy, lk, mk, ty, nd, kn', cl') → wY_catchUp_28 post (nI x) (nI y) n (nI n0) (nI e) (nI m) sy lk mk ty nd kn cl) := by
  have hm := hG.1
  intro d
  induction d with
  | zero =>
    intro e n0 kn cl c he hH
    refine ⟨nI n0, kn, cl, c, hH, fun post n hn h => ?_, fun post n hn h => ?_⟩
    · cases n with
      | zero => cases hn
      | succ n => exact br_t (nI_le (by omega) (by omega)) h
    · cases n with
      | zero => cases hn
      | succ n => exact br_t (nI_le (by omega) (by omega)) h
  | succ d ih =>
    intro e n0 kn cl c he hH
    have hge : ¬ nI m ≤ nI e := nI_ge (by omega) (by omega)
    cases hby : bt (kn y) e with
    | false =>
      obtain ⟨r, kn', cl', c', i1, i2, i3⟩ := ih (e + 1) n0 kn cl c (by omega) hH
      refine ⟨r, kn', cl', c', i1, fun post n hn h => ?_, fun post n hn h => ?_⟩
      · cases n with
        | zero => cases hn
        | succ n =>
          refine br_f hge (xw_knows hy (by omega) ?_)
          rw [hby]
          exact br_t rfl (nm_r (nI_1 e) (i2 post n (by omega) h))
      · cases n with
        | zero => cases hn
        | succ n =>
          refine br_f hge (yw_known hy hm (by omega) ?_)
          rw [hby]
          exact br_t rfl (nm_r (nI_1 e) (i3 post n (by omega) h))
    | true =>
      cases hbx : bt (kn x) e with
      | true =>
        obtain ⟨r, kn', cl', c', i1, i2, i3⟩ := ih (e + 1) n0 kn cl c (by omega) hH
        refine ⟨r, kn', cl', c', i1, fun post n hn h => ?_, fun post n hn h => ?_⟩
        · cases n with
          | zero => cases hn
          | succ n =>
            refine br_f hge (xw_knows hy (by omega) ?_)
            rw [hby]
            refine br_f (by decide) (xw_knows hx (by omega) ?_)
            rw [hbx]
            exact br_f (by decide) (nm_r (nI_1 e) (i2 post n (by omega) h))
        · cases n with
          | zero => cases hn
          | succ n =>
            refine br_f hge (yw_known hy hm (by omega) ?_)
            rw [hby]
            refine br_f (by decide) (yw_known hx hm (by omega) ?_)
            rw [hbx]
            exact br_f (by decide) (nm_r (nI_1 e) (i3 post n (by omega) h))
      | false =>
        obtain ⟨kn1, cl1, c1, j1, j2, j3⟩ := vw_take (e := e) (nd := nd) hx (by omega) hG hH
        obtain ⟨r, kn', cl', c', i1, i2, i3⟩ := ih (e + 1) (n0 + 1) kn1 cl1 c1 (by omega) j1
        refine ⟨r, kn', cl', c', i1, fun post n hn h => ?_, fun post n hn h => ?_⟩
        · cases n with
          | zero => cases hn
          | succ n =>
            refine br_f hge (xw_knows hy (by omega) ?_)
            rw [hby]
            refine br_f (by decide) (xw_knows hx (by omega) ?_)
            rw [hbx]
            exact br_t rfl (j2 _ (nm_r (nI_1 n0) (nm_r (nI_1 e) (i2 post n (by omega) h))))
        · cases n with
          | zero => cases hn
          | succ n =>
            refine br_f hge (yw_known hy hm (by omega) ?_)
            rw [hby]
            refine br_f (by decide) (yw_known hx hm (by omega) ?_)
            rw [hbx]
            exact br_t rfl (j3 _ (nm_r (nI_1 n0) (nm_r (nI_1 e) (i3 post n (by omega) h))))
end
theorem qq_rep (v : Int32) : (v < 0 ∨ nI 3 ≤ v) ∨ ∃ x, x < 3 ∧ v = nI x := by
  rcases pk_ix v (n := 3) (by decide) with h | h | h
  · exact Or.inl (Or.inl h)
  · exact Or.inl (Or.inr h)
  · exact Or.inr h
theorem i_vc_catchUp {k : Nat} {u : SX} {v : SY} (I : i_Rel k u v) (hk : k + 4 ≤ 2048) (v1 : Int32) (v2 : Int32) : wpX_catchUp (fun r u' => wpY_catchUp (fun r' v' => r' = r ∧ i_Rel (k + 4) u' v') v v1 v2) u v1 v2 := by
  have J := i_up I
  obtain ⟨m, kn, cl, nd, mk, sx, tx, dl, od, sy, lk, ty, t, w, c, pr, Q, L, rfl, rfl, hG, hH⟩ := I
  unfold wpX_catchUp wpY_catchUp
  dsimp only
  rcases qq_rep v1 with h | ⟨x, hx, rfl⟩
  · exact xr_f h (br_t rfl (yr_f h (br_t rfl ⟨rfl, J⟩)))
  · rcases qq_rep v2 with h | ⟨y, hy, rfl⟩
    · exact xr_t hx (br_f (by decide) (xr_f h (br_t rfl (yr_t hx (br_f (by decide) (yr_f h (br_t rfl ⟨rfl, J⟩)))))))
    · refine xr_t hx (br_f (by decide) (xr_t hy (br_f (by decide) ?_)))
      by_cases hxy : nI x = nI y
      · exact br_t hxy (yr_t hx (br_f (by decide) (yr_t hy (br_f (by decide) (br_t hxy ⟨rfl, J⟩)))))
      · obtain ⟨r, kn', cl', c', i1, i2, i3⟩ := vw_cu (nd := nd) hx hy hG m 0 0 kn cl c (by omega) hH
        refine br_f hxy ⟨m + 1, i2 _ (m + 1) (by omega) ?_⟩
        refine yr_t hx (br_f (by decide) (yr_t hy (br_f (by decide) (br_f hxy ⟨m + 1, i3 _ (m + 1) (by omega) ⟨rfl, ?_⟩⟩))))
        exact ⟨m, kn', cl', nd, mk, sx, tx, dl, od, sy, lk, ty, t, w, c', pr, Q, L, rfl, rfl, hG, i1⟩
theorem i_vc_learn {k : Nat} {u : SX} {v : SY} (I : i_Rel k u v) (hk : k + 4 ≤ 2048) (v1 : Int32) (v2 : Int32) (v3 : Int32) : wpX_learn (fun r u' => wpY_learn (fun r' v' => r' = r ∧ i_Rel (k + 4) u' v') v v1 v2 v3) u v1 v2 v3 := by
  have J := i_up I
  obtain ⟨m, kn, cl, nd, mk, sx, tx, dl, od, sy, lk, ty, t, w, c, pr, Q, L, rfl, rfl, hG, hH⟩ := I
  have hm := hG.1
  unfold wpX_learn wpY_learn
  dsimp only
  rcases qq_rep v1 with h | ⟨x, hx, rfl⟩
  · exact xr_f h (br_t rfl (yr_f h (br_t rfl ⟨rfl, J⟩)))
  · rcases qq_rep v2 with h | ⟨y, hy, rfl⟩
    · exact xr_t hx (br_f (by decide) (xr_f h (br_t rfl (yr_t hx (br_f (by decide) (yr_f h (br_t rfl ⟨rfl, J⟩)))))))
    · refine xr_t hx (br_f (by decide) (xr_t hy (br_f (by decide) ?_)))
      by_cases hxy : nI x = nI y
      · exact br_t hxy (yr_t hx (br_f (by decide) (yr_t hy (br_f (by decide) (br_t hxy ⟨rfl, J⟩)))))
      · refine br_f hxy ?_
        rcases pk_ix v3 (n := m) (by omega) with h | h | ⟨e, he, rfl⟩
        · exact br_t h (yr_t hx (br_f (by decide) (yr_t hy (br_f (by decide) (br_f hxy (yw_known0 (Or.inl h) (br_t rfl ⟨rfl, J⟩)))))))
        · have h0 : ¬ v3 < 0 := fun z => nI_pos (n := m) (by omega) (Int32.lt_of_le_of_lt h z)
          exact br_f h0 (br_t h (yr_t hx (br_f (by decide) (yr_t hy (br_f (by decide) (br_f hxy (yw_known0 (Or.inr h) (br_t rfl ⟨rfl, J⟩))))))))
        · refine br_f (nI_pos (by omega)) (br_f (nI_ge he (by omega)) (xw_knows hy (by omega) ?_))
          have hv : vp_in (nI x) 3 := vp_in_nI hx (by decide)
          have hve : vp_in (nI e) 30 := vp_in_nI (by omega) (by decide)
          cases hby : bt (kn y) e with
          | false =>
            refine br_t rfl (yr_t hx (br_f (by decide) (yr_t hy (br_f (by decide) (br_f hxy (yw_known hy hm he ?_))))))
            rw [hby]
            exact br_t rfl ⟨rfl, J⟩
          | true =>
            refine br_f (by decide) (xw_knows hx (by omega) ?_)
            cases hbx : bt (kn x) e with
            | true =>
              refine br_f (by decide) (yr_t hx (br_f (by decide) (yr_t hy (br_f (by decide) (br_f hxy (yw_known hy hm he ?_))))))
              rw [hby]
              refine br_f (by decide) (yw_known hx hm he ?_)
              rw [hbx]
              exact br_f (by decide) ⟨rfl, J⟩
            | false =>
              refine br_t rfl ⟨hve, hv, ?_⟩
              by_cases hn : (nd (nI e).toNatClampNeg) &&& ((kn (nI x).toNatClampNeg) ^^^ (-1)) = 0
              · obtain ⟨kn1, cl1, c1, j1, j2, j3⟩ := vw_take (e := e) (nd := nd) hx he hG hH
                refine br_t hn (j2 _ (yr_t hx (br_f (by decide) (yr_t hy (br_f (by decide) (br_f hxy (yw_known hy hm he ?_)))))))
                rw [hby]
                refine br_f (by decide) (yw_known hx hm he ?_)
                rw [hbx]
                refine br_t rfl ⟨hve, hv, br_t hn (j3 _ ⟨rfl, ?_⟩)⟩
                exact ⟨m, kn1, cl1, nd, mk, sx, tx, dl, od, sy, lk, ty, t, w, c1, pr, Q, L, rfl, rfl, hG, j1⟩
              · refine br_f hn (yr_t hx (br_f (by decide) (yr_t hy (br_f (by decide) (br_f hxy (yw_known hy hm he ?_))))))
                rw [hby]
                refine br_f (by decide) (yw_known hx hm he ?_)
                rw [hbx]
                exact br_t rfl ⟨hve, hv, br_f hn ⟨rfl, J⟩⟩
