/-! put, erase -/
section
variable {m x : Nat} {sy lk mk ty nd kn cl dl sx tx od : Nat → Int32} {t w c pr : Nat → Nat} {Q : Nat → List Nat} {L : List Nat}
theorem vw_put0 (hx : x < 3) (hm : m < 30) (hG : qq_G m sy lk ty mk dl t w pr Q L) (hH : qq_H m kn cl sx tx od sy ty t w c L) {s : Int32} (hs : ¬ s < 0) : ∃ v' : SY, (∀ post : Int32 → SX → Prop, (∀ u', i_Rel 0 u' v' → post (nI m) u') → wX_put_49 post (nI x) s (-1) (nI m) (nI L.length) kn cl nd sx tx mk dl od) ∧ (∀ post : Int32 → SY → Prop, post (nI m) v' → wY_put_61 post (nI x) s (-1) (nI m) sy lk mk ty nd kn cl) := by
  have hF := hG.2.1
  refine vw_put (cd := 0) (A := []) (R := L) hx hm hG hH hs (Nat.zero_le _) (fun q hq => by cases hq) ?_ rfl (fun f hf => absurd hf List.not_mem_nil) ?_
  · intro y hy
    rw [hF.1] at hy
    exact absurd hy List.not_mem_nil
  · intro f hf
    have h := (qq_mem hG.2.2.2.2.2).mp hf
    rw [hF.1, (hF.2 f h.1 (qq_el_t.mp h.2)).2.2.2.1]
    cases hq : Q (pr f) with
    | nil => rfl
    | cons a b => rfl
theorem vw_put1 (hx : x < 3) (hm : m < 30) (hG : qq_G m sy lk ty mk dl t w pr Q L) (hH : qq_H m kn cl sx tx od sy ty t w c L) {s : Int32} (hs : ¬ s < 0) {A B : List Nat} {q : Nat} (hL : L = A ++ q :: B) (hq : qq_sh kn dl x q = true) : ∃ v' : SY, (∀ post : Int32 → SX → Prop, (∀ u', i_Rel 0 u' v' → post (nI m) u') → wX_put_49 post (nI x) s (nI A.length) (nI m) (nI L.length) kn cl nd sx tx mk dl od) ∧ (∀ post : Int32 → SY → Prop, post (nI m) v' → wY_put_61 post (nI x) s (nI q) (nI m) sy lk mk ty nd kn cl) := by
  have hF := hG.2.1
  have hqL := (qq_mem hG.2.2.2.2.2).mp (show q ∈ L by rw [hL]; simp)
  have hqe := qq_el_t.mp hqL.2
  obtain ⟨f1, f2, f3, f4, f5, f6, f7, f8, f9⟩ := hF.2 q hqL.1 hqe
  have hkq : bt (kn x) q = true := by
    unfold qq_sh at hq
    rw [Bool.and_eq_true] at hq
    exact hq.1
  have htq := hH.2.2.2.2.1 x q hx hqL.1 hqe hkq
  have hP := hG.2.2.2.2.1
  rw [hL, List.pairwise_append, List.pairwise_cons] at hP
  obtain ⟨p1, ⟨p2, p3⟩, p4⟩ := hP
  have h := vw_put (cd := q + 1) (A := A ++ [q]) (R := B) (nd := nd) hx hm hG hH hs (by omega) (fun q' hq' => by
    have e : q' = q := by omega
    rw [e]
    exact hqe) ?_ (by rw [hL]; simp) ?_ p2
  · rw [List.length_append] at h
    exact h
  · intro y hy
    rw [f4] at hy
    rcases List.mem_append.mp hy with h | h
    · have := f9 y h
      omega
    · rw [List.mem_singleton] at h
      omega
  · intro f hf
    rcases List.mem_append.mp hf with h | h
    · exact Or.inl (p4 f h q List.mem_cons_self)
    · rw [List.mem_singleton] at h
      rw [h]
      exact Or.inr rfl
end
theorem i_vc_put {k : Nat} {u : SX} {v : SY} (I : i_Rel k u v) (hk : k + 4 ≤ 2048) (v1 : Int32) (v2 : Int32) (v3 : Int32) : wpX_put (fun r u' => wpY_put (fun r' v' => r' = r ∧ i_Rel (k + 4) u' v') v v1 v2 v3) u v1 v2 v3 := by
  have J := i_up I
  obtain ⟨m, kn, cl, nd, mk, sx, tx, dl, od, sy, lk, ty, t, w, c, pr, Q, L, rfl, rfl, hG, hH⟩ := I
  have hm := hG.1
  have hl := qq_l30 hG
  unfold wpX_put wpY_put
  dsimp only
  rcases qq_rep v1 with h | ⟨x, hx, rfl⟩
  · exact xr_f h (br_t rfl (yr_f h (br_t rfl ⟨rfl, J⟩)))
  · rcases pk_ix v3 (n := 26) (by decide) with h | h | ⟨s, hs, rfl⟩
    · exact xr_t hx (br_f (by decide) (br_t h (yr_t hx (br_f (by decide) (br_t h ⟨rfl, J⟩)))))
    · have h0 : ¬ v3 < 0 := fun z => nI_pos (n := 26) (by decide) (Int32.lt_of_le_of_lt h z)
      exact xr_t hx (br_f (by decide) (br_f h0 (br_t h (yr_t hx (br_f (by decide) (br_f h0 (br_t (Int32.lt_of_lt_of_le (by decide) h) ⟨rfl, J⟩)))))))
    · have s0 : ¬ nI s < 0 := nI_pos (by omega)
      have s1 : ¬ (26 : Int32) ≤ nI s := nI_ge (b := 26) hs (by decide)
      have s2 : ¬ (25 : Int32) < nI s := nI_nlt (a := 25) (by omega) (by decide)
      refine xr_t hx (br_f (by decide) (br_f s0 (br_f s1 ?_)))
      have hc := List.countP_le_length (p := qq_sh kn dl x) (l := L)
      by_cases hp : v2 < 0
      · exact br_f (Int32.not_le.mpr hp) (yr_t hx (br_f (by decide) (br_f s0 (br_f s2 (br_t hp ⟨rfl, J⟩)))))
      · refine br_t (Int32.not_lt.mp hp) ?_
        obtain ⟨j, hj, rfl⟩ := nI_of hp
        cases j with
        | zero =>
          refine br_t (by decide) ?_
          by_cases hm30 : m < 30
          · obtain ⟨v', a1, a2⟩ := vw_put0 (nd := nd) hx hm30 hG hH s0
            refine a1 _ (fun u' hR => ?_)
            exact yr_t hx (br_f (by decide) (br_f s0 (br_f s2 (br_f hp (yw_len hx hG (br_t (nI_le (Nat.zero_le _) (by omega)) (br_t (nI_lt (b := 30) hm30 (by decide)) (br_t rfl (a2 _ ⟨rfl, hR⟩)))))))))
          · have hm31 : ¬ nI m < 30 := nI_nlt (b := 30) (by omega) (by omega)
            exact br_f hm31 (yr_t hx (br_f (by decide) (br_f s0 (br_f s2 (br_f hp (yw_len hx hG (br_t (nI_le (Nat.zero_le _) (by omega)) (br_f hm31 ⟨rfl, J⟩))))))))
        | succ j =>
          have e1 : nI (j + 1) - 1 = nI j := nI_pred j
          rw [e1]
          refine br_f (nI_nle (by omega) hj) (xw_ix hx hl hH.1 ?_)
          rcases qq_found (qq_sh kn dl x) L (nI j) with ⟨A, q, B, h1, h2, h3⟩ | hno
          · have hlt := qq_lt h1 h2
            have hAl : A.length < 30 := by
              have := congrArg List.length h1
              simp at this
              omega
            have hle : nI (j + 1) ≤ nI (L.countP (qq_sh kn dl x)) := by
              refine nI_le ?_ (by omega)
              rw [nI_eq (by omega) (by omega)] at h3
              omega
            rw [h1, qq_ix_f _ _ _ _ h2 A 0 0 (by omega) (by rw [Nat.zero_add]; exact h3), Nat.zero_add, ← h1]
            refine br_f (fun z => nI_pos (n := A.length) (by omega) (by rw [z]; decide)) ?_
            by_cases hm30 : m < 30
            · obtain ⟨v', a1, a2⟩ := vw_put1 (nd := nd) hx hm30 hG hH s0 h1 h2
              refine a1 _ (fun u' hR => ?_)
              exact yr_t hx (br_f (by decide) (br_f s0 (br_f s2 (br_f hp (yw_len hx hG (br_t hle (br_t (nI_lt (b := 30) hm30 (by decide)) (br_f (nI_ne0 (by omega) hj) (yw_el_f hx hG h1 h2 h3 (a2 _ ⟨rfl, hR⟩))))))))))
            · have hm31 : ¬ nI m < 30 := nI_nlt (b := 30) (by omega) (by omega)
              exact br_f hm31 (yr_t hx (br_f (by decide) (br_f s0 (br_f s2 (br_f hp (yw_len hx hG (br_t hle (br_f hm31 ⟨rfl, J⟩))))))))
          · have hnl : ¬ nI (j + 1) ≤ nI (L.countP (qq_sh kn dl x)) := by
              refine nI_ge ?_ hj
              apply Nat.lt_succ_of_le
              apply Nat.le_of_not_lt
              intro hlt
              obtain ⟨A, e, B, h1, h2, h3⟩ := qq_ex (qq_sh kn dl x) L j hlt
              exact hno A e B h1 h2 (by rw [h3])
            rw [qq_ix_n _ _ L 0 0 (fun A e B h1 h2 => by rw [Nat.zero_add]; exact hno A e B h1 h2)]
            exact br_t rfl (yr_t hx (br_f (by decide) (br_f s0 (br_f s2 (br_f hp (yw_len hx hG (br_f hnl ⟨rfl, J⟩)))))))
section
variable {m x : Nat} {sy lk mk ty nd kn cl dl sx tx od : Nat → Int32} {t w c pr : Nat → Nat} {Q : Nat → List Nat} {L : List Nat}
theorem qq_erG (hm : m < 30) (hG : qq_G m sy lk ty mk dl t w pr Q L) {q : Nat} (hq : q < m) {r z : Int32} : qq_G (m + 1) (upd sy m (-1)) (upd lk m (nI q)) (upd ty m r) (upd mk m z) (upd dl q (dl q ||| ((1 : Int32) <<< (nI m &&& 31)))) t w pr Q L := by
  obtain ⟨_, hF, hU, hD, hP, hPm⟩ := hG
  have hne : ∀ e, ¬ upd sy m (-1) e < 0 → e ≠ m := by
    intro e he hem
    subst hem
    rw [pk_us] at he
    exact he (by decide)
  refine ⟨by omega, ⟨hF.1, ?_⟩, ?_, ?_, hP, ?_⟩
  · intro e he hee
    have hem := hne e hee
    rw [pk_un hem] at hee
    obtain ⟨f1, f2, f3, f4, f5, f6, f7, f8, f9⟩ := hF.2 e (by omega) hee
    rw [pk_un hem, pk_un hem, pk_un hem]
    refine ⟨f1, f2, fun q hq => ?_, f4, f5, f6, f7, by omega, f9⟩
    rw [pk_un (by omega)]
    exact f3 q hq
  · intro e f he hf hee hfe h
    have hem := hne e hee
    have hfm := hne f hfe
    rw [pk_un hem] at hee
    rw [pk_un hfm] at hfe
    exact hU e f (by omega) (by omega) hee hfe h
  · intro e d he hd
    rw [qq_uk (by omega) hd, Bool.or_eq_true, Bool.and_eq_true, decide_eq_true_iff, decide_eq_true_iff, hD e d he hd]
    by_cases hdm : d = m
    · subst hdm
      rw [pk_us, pk_us, nI_eq (by omega) (by omega)]
      constructor
      · rintro (h | h)
        · exact absurd h.1 (Nat.lt_irrefl _)
        · exact ⟨by omega, by decide, h.1.symm⟩
      · intro h
        exact Or.inr ⟨h.2.2.symm, rfl⟩
    · rw [pk_un hdm, pk_un hdm]
      constructor
      · rintro (h | h)
        · exact ⟨by omega, h.2⟩
        · exact absurd h.2 hdm
      · intro h
        exact Or.inl ⟨by omega, h.2⟩
  · rw [List.range_succ, List.filter_append]
    have e1 : (List.range m).filter (qq_el (upd sy m (-1))) = (List.range m).filter (qq_el sy) := by
      apply List.filter_congr
      intro e he
      rw [List.mem_range] at he
      unfold qq_el
      rw [pk_un (by omega)]
    have e2 : [m].filter (qq_el (upd sy m (-1))) = [] := by
      rw [List.filter_cons_of_neg]
      · rfl
      · rw [qq_el_t, pk_us]
        decide
    rw [e1, e2, List.append_nil]
    exact hPm
theorem qq_erH (hx : x < 3) (hm : m < 30) (hH : qq_H m kn cl sx tx od sy ty t w c L) {r : Int32} : qq_H (m + 1) (upd kn x (kn x ||| ((1 : Int32) <<< (nI m &&& 31)))) cl sx tx od (upd sy m (-1)) (upd ty m r) t w c L := by
  obtain ⟨a1, a2, a3, a4, a5, a6, a7⟩ := hH
  have hne : ∀ e, ¬ upd sy m (-1) e < 0 → e ≠ m := by
    intro e he hem
    subst hem
    rw [pk_us] at he
    exact he (by decide)
  refine ⟨a1, ?_, ?_, ?_, ?_, ?_, ?_⟩
  · intro e he hee
    have hem := hne e hee
    rw [pk_un hem] at hee
    rw [pk_un hem, pk_un hem]
    exact a2 e (by omega) hee
  · intro e he
    by_cases hem : e = m
    · exact a3 e (Or.inl (by omega))
    · rw [pk_un hem] at he
      refine a3 e ?_
      rcases he with he | he
      · exact Or.inl (by omega)
      · exact Or.inr he
  · intro y hy
    have := a4 y hy
    exact ⟨this.1, by omega⟩
  · intro y e hy he hee hb
    have hem := hne e hee
    rw [pk_un hem] at hee
    rw [qq_uk (by omega) (by omega), Bool.or_eq_true, Bool.and_eq_true, decide_eq_true_iff, decide_eq_true_iff] at hb
    rcases hb with hb | hb
    · exact a5 y e hy (by omega) hee hb
    · exact absurd hb.2 hem
  · intro y d hy hd hb
    rw [qq_uk (by omega) hd, Bool.or_eq_true, Bool.and_eq_true, decide_eq_true_iff, decide_eq_true_iff] at hb
    rcases hb with hb | hb
    · have := a6 y d hy hd hb
      omega
    · omega
  · intro e he hee
    have hem := hne e hee
    rw [pk_un hem] at hee
    rw [qq_uk (by omega) (by omega), a7 e (by omega) hee, Bool.true_or]
end
theorem i_vc_erase {k : Nat} {u : SX} {v : SY} (I : i_Rel k u v) (hk : k + 4 ≤ 2048) (v1 : Int32) (v2 : Int32) : wpX_erase (fun r u' => wpY_erase (fun r' v' => r' = r ∧ i_Rel (k + 4) u' v') v v1 v2) u v1 v2 := by
  have J := i_up I
  obtain ⟨m, kn, cl, nd, mk, sx, tx, dl, od, sy, lk, ty, t, w, c, pr, Q, L, rfl, rfl, hG, hH⟩ := I
  have hm := hG.1
  have hl := qq_l30 hG
  unfold wpX_erase wpY_erase
  dsimp only
  rcases qq_rep v1 with h | ⟨x, hx, rfl⟩
  · exact xr_f h (br_t rfl (yr_f h (br_t rfl ⟨rfl, J⟩)))
  · refine xr_t hx (br_f (by decide) (xw_ix hx hl hH.1 ?_))
    have hc := List.countP_le_length (p := qq_sh kn dl x) (l := L)
    rcases qq_found (qq_sh kn dl x) L v2 with ⟨A, q, B, h1, h2, h3⟩ | hno
    · have hlt := qq_lt h1 h2
      have hAl : A.length < 30 := by
        have := congrArg List.length h1
        simp at this
        omega
      have hAc := List.countP_le_length (p := qq_sh kn dl x) (l := A)
      have hqL := (qq_mem hG.2.2.2.2.2).mp (show q ∈ L by rw [h1]; simp)
      have hoq := hH.1
      rw [h1] at hoq
      obtain ⟨o1, o2⟩ := qq_at_mid hoq
      have hp : ¬ v2 < 0 := by rw [← h3]; exact nI_pos (by omega)
      have hle : v2 < nI (L.countP (qq_sh kn dl x)) := by rw [← h3]; exact nI_lt hlt (by omega)
      rw [h1, qq_ix_f _ _ _ _ h2 A 0 0 (by omega) (by rw [Nat.zero_add]; exact h3), Nat.zero_add, ← h1]
      refine br_f (fun z => nI_pos (n := A.length) (by omega) (by rw [z]; decide)) ?_
      by_cases hm30 : m < 30
      · have hm31 : nI m < 30 := nI_lt (b := 30) hm30 (by decide)
        have hv : vp_in (nI x) 3 := vp_in_nI hx (by decide)
        have hve : vp_in (nI m) 30 := vp_in_nI hm30 (by decide)
        have hva : vp_in (nI A.length) 30 := vp_in_nI hAl (by decide)
        have hvq : vp_in (nI q) 30 := vp_in_nI o2 (by decide)
        have ex : (nI x).toNatClampNeg = x := nI_clamp (by omega)
        have ee : (nI m).toNatClampNeg = m := nI_clamp (by omega)
        refine br_t hm31 ?_
        unfold wpX_makeEvent
        dsimp only
        rw [ex, ee, nI_clamp (show A.length < 2 ^ 31 by omega), o1, nI_clamp (show q < 2 ^ 31 by omega)]
        refine nm_r (nI_1 m) ⟨hve, nm_e ⟨hv, hve, nm_e ⟨hv, hv, nm_e ⟨hva, hvq, hvq, nm_e ?_⟩⟩⟩⟩
        refine yr_t hx (br_f (by decide) (br_f hp (yw_len hx hG (br_t hle (br_t hm31 (yw_el_f hx hG h1 h2 h3 ?_))))))
        unfold wpY_note
        dsimp only
        rw [ex, ee]
        refine ⟨hve, nm_e ⟨hve, nm_e ⟨hve, nm_e ⟨hv, hve, nm_e ⟨hv, hve, nm_e ⟨hv, hv, nm_e (nm_r (nI_1 m) ?_)⟩⟩⟩⟩⟩⟩
        refine ⟨nI_pred m, ?_⟩
        exact ⟨m + 1, _, _, _, _, _, _, _, _, _, _, _, t, w, c, pr, Q, L, rfl, rfl, qq_erG hm30 hG hqL.1, qq_erH hx hm30 hH⟩
      · have hm31 : ¬ nI m < 30 := nI_nlt (b := 30) (by omega) (by omega)
        exact br_f hm31 (yr_t hx (br_f (by decide) (br_f hp (yw_len hx hG (br_t hle (br_f hm31 ⟨rfl, J⟩))))))
    · rw [qq_ix_n _ _ L 0 0 (fun A e B h1 h2 => by rw [Nat.zero_add]; exact hno A e B h1 h2)]
      refine br_t rfl (yr_t hx (br_f (by decide) ?_))
      by_cases hp : v2 < 0
      · exact br_t hp ⟨rfl, J⟩
      · obtain ⟨j, hj, rfl⟩ := nI_of hp
        have hnl : ¬ nI j < nI (L.countP (qq_sh kn dl x)) := by
          refine nI_nlt ?_ hj
          apply Nat.le_of_not_lt
          intro hlt
          obtain ⟨A, e, B, h1, h2, h3⟩ := qq_ex (qq_sh kn dl x) L j hlt
          exact hno A e B h1 h2 (by rw [h3])
        exact br_f hp (yw_len hx hG (br_f hnl ⟨rfl, J⟩))
