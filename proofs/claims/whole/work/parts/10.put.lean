/-! a new element: the relation afterwards -/
section
variable {m x : Nat} {sy lk mk ty nd kn cl dl sx tx od : Nat → Int32} {t w c pr : Nat → Nat} {Q : Nat → List Nat} {L : List Nat}
theorem qq_newkey (hx : x < 3) (hG : qq_G m sy lk ty mk dl t w pr Q L) (hH : qq_H m kn cl sx tx od sy ty t w c L) {f : Nat} (hf : f < m) (hfe : ¬ sy f < 0) : 3 * t f + w f ≠ 3 * (c x + 1) + x := by
  intro h
  have hw := (hG.2.1.2 f hf hfe).2.2.2.2.2.2.1
  have h1 := hH.2.2.2.2.2.2 f hf hfe
  have hwx : w f = x := by omega
  rw [hwx] at h1
  have h2 := hH.2.2.2.2.1 x f hx hf hfe h1
  omega
theorem qq_putG (hx : x < 3) (hm : m < 30) (hG : qq_G m sy lk ty mk dl t w pr Q L) (hH : qq_H m kn cl sx tx od sy ty t w c L) {s : Int32} (hs : ¬ s < 0) {cd : Nat} (hcm : cd ≤ m) (hcd : ∀ q, cd = q + 1 → ¬ sy q < 0) (hk : ∀ y, y ∈ Q cd → y < 3 * (c x + 1) + x) {A C : List Nat} (hL : L = A ++ C) (hA : ∀ f, f ∈ A → qq_bf (Q (f + 1)) (Q cd ++ [3 * (c x + 1) + x]) = true) (hC : ∀ f, f ∈ C → qq_bf (Q cd ++ [3 * (c x + 1) + x]) (Q (f + 1)) = true) : qq_G (m + 1) (upd sy m s) (upd lk m (qq_dc cd)) (upd ty m (nI (c x + 1))) (upd mk m (nI x)) dl (qq_nu t m (c x + 1)) (qq_nu w m x) (qq_nu pr m cd) (qq_nu Q (m + 1) (Q cd ++ [3 * (c x + 1) + x])) (A ++ m :: C) := by
  have hnk : ∀ f, f < m → ¬ sy f < 0 → 3 * t f + w f ≠ 3 * (c x + 1) + x := fun f h1 h2 => qq_newkey hx hG hH h1 h2
  obtain ⟨_, hF, hU, hD, hP, hPm⟩ := hG
  have hcx := (hH.2.2.2.1 x hx).2
  refine ⟨by omega, ⟨?_, ?_⟩, ?_, ?_, ?_, ?_⟩
  · rw [qq_nun (by omega)]
    exact hF.1
  · intro e he hee
    by_cases hem : e = m
    · subst hem
      rw [pk_us, pk_us, pk_us, qq_nus, qq_nus, qq_nus, qq_nus, qq_nun (by omega)]
      refine ⟨rfl, hcm, fun q hq => ?_, rfl, rfl, rfl, hx, by omega, hk⟩
      rw [pk_un (by omega)]
      exact hcd q hq
    · rw [pk_un hem] at hee
      obtain ⟨f1, f2, f3, f4, f5, f6, f7, f8, f9⟩ := hF.2 e (by omega) hee
      rw [pk_un hem, pk_un hem, pk_un hem, qq_nun hem, qq_nun hem, qq_nun hem, qq_nun (by omega), qq_nun (by omega)]
      refine ⟨f1, f2, fun q hq => ?_, f4, f5, f6, f7, by omega, f9⟩
      rw [pk_un (by omega)]
      exact f3 q hq
  · intro e f he hf hee hfe h
    by_cases hem : e = m
    · by_cases hfm : f = m
      · rw [hem, hfm]
      · subst hem
        rw [pk_un hfm] at hfe
        rw [qq_nus, qq_nus, qq_nun hfm, qq_nun hfm] at h
        exact absurd h.symm (hnk f (by omega) hfe)
    · rw [pk_un hem] at hee
      by_cases hfm : f = m
      · subst hfm
        rw [qq_nus, qq_nus, qq_nun hem, qq_nun hem] at h
        exact absurd h (hnk e (by omega) hee)
      · rw [pk_un hfm] at hfe
        rw [qq_nun hem, qq_nun hem, qq_nun hfm, qq_nun hfm] at h
        exact hU e f (by omega) (by omega) hee hfe h
  · intro e d he hd
    rw [hD e d he hd]
    by_cases hdm : d = m
    · subst hdm
      rw [pk_us]
      constructor
      · intro h; exact absurd h.1 (Nat.lt_irrefl _)
      · intro h; exact absurd h.2.1 hs
    · rw [pk_un hdm, pk_un hdm]
      constructor
      · intro h; exact ⟨by omega, h.2⟩
      · intro h; exact ⟨by omega, h.2⟩
  · have hlt : ∀ f, f ∈ A ++ C → f + 1 ≠ m + 1 := by
      intro f hf
      rw [← hL] at hf
      have := ((qq_mem hPm).mp hf).1
      omega
    apply qq_pw
    · rw [hL] at hP
      refine qq_pwc (fun a b ha hb h => ?_) hP
      rw [qq_nun (hlt a ha), qq_nun (hlt b hb)]
      exact h
    · intro a ha
      rw [qq_nun (hlt a (List.mem_append_left _ ha)), qq_nus]
      exact hA a ha
    · intro a ha
      rw [qq_nun (hlt a (List.mem_append_right _ ha)), qq_nus]
      exact hC a ha
  · rw [List.range_succ, List.filter_append]
    have e1 : (List.range m).filter (qq_el (upd sy m s)) = (List.range m).filter (qq_el sy) := by
      apply List.filter_congr
      intro e he
      rw [List.mem_range] at he
      unfold qq_el
      rw [pk_un (by omega)]
    have e2 : [m].filter (qq_el (upd sy m s)) = [m] := by
      rw [List.filter_cons_of_pos]
      · rfl
      · rw [qq_el_t, pk_us]
        exact hs
    rw [e1, e2]
    rw [hL] at hPm
    exact List.perm_middle.trans ((List.Perm.cons m hPm).trans (List.perm_append_singleton m _).symm)
theorem qq_putH (hx : x < 3) (hm : m < 30) (hH : qq_H m kn cl sx tx od sy ty t w c L) {s : Int32} (hs : ¬ s < 0) {od' : Nat → Int32} {L' : List Nat} (ho : qq_at od' 0 L') : qq_H (m + 1) (upd kn x (kn x ||| ((1 : Int32) <<< (nI m &&& 31)))) (upd cl x (nI (c x + 1))) (upd sx m s) (upd tx m (nI (c x + 1))) od' (upd sy m s) (upd ty m (nI (c x + 1))) (qq_nu t m (c x + 1)) (qq_nu w m x) (qq_nu c x (c x + 1)) L' := by
  obtain ⟨a1, a2, a3, a4, a5, a6, a7⟩ := hH
  have hcx := (a4 x hx).2
  refine ⟨ho, ?_, ?_, ?_, ?_, ?_, ?_⟩
  · intro e he hee
    by_cases hem : e = m
    · subst hem
      rw [pk_us, pk_us, pk_us, pk_us]
      exact ⟨rfl, rfl⟩
    · rw [pk_un hem] at hee
      rw [pk_un hem, pk_un hem, pk_un hem, pk_un hem]
      exact a2 e (by omega) hee
  · intro e he
    by_cases hem : e = m
    · subst hem
      rw [pk_us] at he
      rcases he with he | he
      · exact absurd he (by omega)
      · exact absurd he hs
    · rw [pk_un hem] at he ⊢
      refine a3 e ?_
      rcases he with he | he
      · exact Or.inl (by omega)
      · exact Or.inr he
  · intro y hy
    by_cases hyx : y = x
    · subst hyx
      rw [pk_us, qq_nus]
      exact ⟨rfl, by omega⟩
    · rw [pk_un hyx, qq_nun hyx]
      have := a4 y hy
      exact ⟨this.1, by omega⟩
  · intro y e hy he hee hb
    rw [qq_uk (by omega) (by omega), Bool.or_eq_true, Bool.and_eq_true, decide_eq_true_iff, decide_eq_true_iff] at hb
    by_cases hem : e = m
    · subst hem
      rw [qq_nus]
      rcases hb with hb | hb
      · have := a6 y e hy (by omega) hb
        omega
      · rw [hb.1, qq_nus]
        exact Nat.le_refl _
    · rw [pk_un hem] at hee
      rw [qq_nun hem]
      rcases hb with hb | hb
      · have h := a5 y e hy (by omega) hee hb
        by_cases hyx : y = x
        · subst hyx
          rw [qq_nus]
          omega
        · rw [qq_nun hyx]
          exact h
      · exact absurd hb.2 hem
  · intro y d hy hd hb
    rw [qq_uk (by omega) hd, Bool.or_eq_true, Bool.and_eq_true, decide_eq_true_iff, decide_eq_true_iff] at hb
    rcases hb with hb | hb
    · have := a6 y d hy hd hb
      omega
    · omega
  · intro e he hee
    rw [qq_uk (by omega) (by omega)]
    by_cases hem : e = m
    · subst hem
      rw [qq_nus]
      simp
    · rw [pk_un hem] at hee
      rw [qq_nun hem, a7 e (by omega) hee, Bool.true_or]
/-- behind the checks: A the entries up to the parent, cd the parent's code -/
theorem vw_put (hx : x < 3) (hm : m < 30) (hG : qq_G m sy lk ty mk dl t w pr Q L) (hH : qq_H m kn cl sx tx od sy ty t w c L) {s : Int32} (hs : ¬ s < 0) {cd : Nat} (hcm : cd ≤ m) (hcd : ∀ q, cd = q + 1 → ¬ sy q < 0) (hk : ∀ y, y ∈ Q cd → y < 3 * (c x + 1) + x) {A R : List Nat} (hL : L = A ++ R) (hA : ∀ f, f ∈ A → qq_bf (Q (f + 1)) (Q cd) = true ∨ Q (f + 1) = Q cd) (hR : ∀ f, f ∈ R → qq_bf (Q cd) (Q (f + 1)) = true) : ∃ v' : SY, (∀ post : Int32 → SX → Prop, (∀ u', i_Rel 0 u' v' → post (nI m) u') → wX_put_49 post (nI x) s (qq_dc A.length) (nI m) (nI L.length) kn cl nd sx tx mk dl od) ∧ (∀ post : Int32 → SY → Prop, post (nI m) v' → wY_put_61 post (nI x) s (qq_dc cd) (nI m) sy lk mk ty nd kn cl) := by
  obtain ⟨hcx, hcm2⟩ := hH.2.2.2.1 x hx
  have hv : vp_in (nI x) 3 := vp_in_nI hx (by decide)
  have hve : vp_in (nI m) 30 := vp_in_nI hm (by decide)
  have ex : (nI x).toNatClampNeg = x := nI_clamp (by omega)
  have ee : (nI m).toNatClampNeg = m := nI_clamp (by omega)
  have hcl : upd cl x (cl x + 1) = upd cl x (nI (c x + 1)) := by rw [hcx, nI_1]
  obtain ⟨B, C, hBC, hB, hC⟩ := qq_spl (fun f => decide (3 * (c x + 1) + x < 3 * t f + w f)) R
  subst hBC
  have hmem : ∀ f, f ∈ L → f < m ∧ ¬ sy f < 0 := fun f hf => by
    have h := (qq_mem hG.2.2.2.2.2).mp hf
    exact ⟨h.1, qq_el_t.mp h.2⟩
  have hB' : ∀ f, f ∈ B → 3 * (c x + 1) + x < 3 * t f + w f := fun f hf => of_decide_eq_true (hB f hf)
  have hC' : ∀ s C', C = s :: C' → ¬ 3 * (c x + 1) + x < 3 * t s + w s := fun s C' h => of_decide_eq_false (hC s C' h)
  have hins := qq_ins hG hL hk (fun f hf => qq_newkey hx hG hH (hmem f hf).1 (hmem f hf).2) hA hR hB' hC'
  have hL2 : L = (A ++ B) ++ C := by rw [hL, List.append_assoc]
  refine ⟨(nI (m + 1), upd sy m s, upd lk m (qq_dc cd), upd mk m (nI x), upd ty m (nI (c x + 1)), upd nd m (kn x), upd kn x (kn x ||| ((1 : Int32) <<< (nI m &&& 31))), upd cl x (nI (c x + 1))), fun post h => ?_, fun post h => ?_⟩
  · unfold wX_put_49 wpX_makeEvent
    dsimp only
    rw [ex, ee]
    refine br_t (nI_lt (b := 30) hm (by decide)) (nm_r (nI_1 m) ⟨hve, nm_e ⟨hv, hve, nm_e ⟨hv, hv, nm_e ⟨hv, hv, nm_r hcl ⟨hve, nm_e ⟨hv, hve, nm_r (e' := upd tx m (nI (c x + 1))) (by rw [pk_us]) ?_⟩⟩⟩⟩⟩⟩)
    have hll := qq_len hG.2.2.2.2.2
    refine xw_place (t := t) (w := w) (A := A) (B := B) (C := C) (te := c x + 1) (we := x) (by rw [hL]) (by omega) hm pk_us pk_us hx (by omega) ?_ (by rw [← hL]; exact hH.1) hB' hC' (fun o' ho' => ?_)
    · intro f hf
      have hfL : f ∈ L := by rw [hL]; exact List.mem_append_right _ hf
      obtain ⟨h1, h2⟩ := hmem f hfL
      obtain ⟨_, _, _, _, f5, f6, f7, f8, _⟩ := hG.2.1.2 f h1 h2
      rw [pk_un (by omega), pk_un (by omega), (hH.2.1 f h1 h2).2]
      exact ⟨f5, f6, f7, by omega⟩
    · refine h _ ⟨m + 1, upd kn x (kn x ||| ((1 : Int32) <<< (nI m &&& 31))), upd cl x (nI (c x + 1)), upd nd m (kn x), upd mk m (nI x), upd sx m s, upd tx m (nI (c x + 1)), dl, o', upd sy m s, upd lk m (qq_dc cd), upd ty m (nI (c x + 1)), qq_nu t m (c x + 1), qq_nu w m x, qq_nu c x (c x + 1), qq_nu pr m cd, qq_nu Q (m + 1) (Q cd ++ [3 * (c x + 1) + x]), (A ++ B) ++ m :: C, ?_, rfl, ?_, ?_⟩
      · rw [show ((A ++ B) ++ m :: C).length = L.length + 1 by rw [hL2]; simp; omega]
      · exact qq_putG hx hm hG hH hs hcm hcd hk hL2 hins.1 hins.2
      · exact qq_putH hx hm hH hs ho'
  · unfold wY_put_61 wpY_note
    dsimp only
    rw [ex, ee]
    refine ⟨hv, hv, nm_r hcl ⟨hve, nm_e ⟨hve, nm_e ⟨hve, nm_e ⟨hv, hve, nm_r (e' := upd ty m (nI (c x + 1))) (by rw [pk_us]) ⟨hv, hve, nm_e ⟨hv, hv, nm_e (nm_r (nI_1 m) ?_)⟩⟩⟩⟩⟩⟩⟩
    rw [nI_pred]
    exact h
end
