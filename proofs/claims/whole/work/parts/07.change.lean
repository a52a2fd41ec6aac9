theorem up_012 (x : Int32) : (¬ x < 0 ∧ x ≤ 2) ↔ (x = 0 ∨ x = 1 ∨ x = 2) := by
  constructor
  · rintro ⟨h0, h2⟩
    obtain ⟨j, hj, rfl⟩ := nI_of2 (M := 2) (n := 2) (by decide) h0 h2
    have h : j = 0 ∨ j = 1 ∨ j = 2 := by omega
    rcases h with h | h | h
    · rw [h]; exact Or.inl rfl
    · rw [h]; exact Or.inr (Or.inl rfl)
    · rw [h]; exact Or.inr (Or.inr rfl)
  · rintro (h | h | h)
    · rw [h]; decide
    · rw [h]; decide
    · rw [h]; decide
theorem i_vc_fix {k : Nat} {u : SX} {v : SY} (I : i_Rel k u v) (hk : k + 5 ≤ 2561) (v1 : Int32) (v2 : Int32) : wpX_fix (fun r u' => wpY_fix (fun r' v' => r' = r ∧ i_Rel (k + 5) u' v') v v1 v2) u v1 v2 := by
  obtain ⟨n, c, aR, aB, aF, aS, aT, aG, aU, aP, rfl, rfl, hI⟩ := I
  have J : i_Rel (k + 5) (nI n, nI (2 ^ n), nI c, aR, aB, aF, aS, aT, aG, aU) (nI n, nI (2 ^ n), nI c, aP, aF, aS, aT, aG, aU) := up_R hI
  obtain ⟨hn, hc, hR, hB, hF, hG, hU, hp⟩ := hI
  unfold wpX_fix
  dsimp only
  rcases up_ix v1 n (by omega) with hb | ⟨j, hj, rfl⟩
  · refine up_xv0 hb (br_t rfl ?_)
    unfold wpY_fix
    dsimp only
    exact up_yv0 hb (br_f (by decide) ⟨rfl, J⟩)
  · refine up_xv1 hj hn (br_f (by decide) ?_)
    have hin : vp_in (nI j) 10 := vp_in_nI (by omega) (by omega)
    have ec : (nI j).toNatClampNeg = j := nI_clamp (by omega)
    by_cases h3 : v2 = 0 ∨ v2 = 1 ∨ v2 = 2
    · have hy := (up_012 v2).mpr h3
      have key : wX_fix_26 (fun r u' => wpY_fix (fun r' v' => r' = r ∧ i_Rel (k + 5) u' v') (nI n, nI (2 ^ n), nI c, aP, aF, aS, aT, aG, aU) (nI j) v2) (nI j) v2 (nI n) (nI (2 ^ n)) (nI c) aR aB aF aS aT aG aU := by
        unfold wX_fix_26
        refine ⟨hin, nm_e ⟨hin, nm_e ?_⟩⟩
        rw [ec]
        unfold wpY_fix
        dsimp only
        refine up_yv1 hj hn (br_t rfl (br_f hy.1 (br_t hy.2 ?_)))
        rw [ec]
        refine ⟨hin, nm_e ⟨hin, nm_e ⟨rfl, up_R ⟨hn, hc, hR, hB, fun i hi => ?_, hG, hU, hp⟩⟩⟩⟩
        by_cases z : i = j
        · rw [z, pk_us]; exact h3
        · rw [pk_un z]; exact hF i hi
      by_cases hf : v2 = 0 ∨ v2 = 1
      · exact up_xf1 hf (br_f (by decide) key)
      · have e2 : v2 = 2 := by
          rcases h3 with h | h | h
          · exact absurd (Or.inl h) hf
          · exact absurd (Or.inr h) hf
          · exact h
        exact up_xf0 hf (br_t rfl (br_t e2 key))
    · refine up_xf0 (fun h => h3 (h.elim Or.inl (fun z => Or.inr (Or.inl z)))) (br_t rfl (br_f (fun z => h3 (Or.inr (Or.inr z))) ?_))
      unfold wpY_fix
      dsimp only
      refine up_yv1 hj hn (br_t rfl ?_)
      by_cases h0 : v2 < 0
      · exact br_t h0 ⟨rfl, J⟩
      · exact br_f h0 (br_f (fun z => h3 ((up_012 v2).mp ⟨h0, z⟩)) ⟨rfl, J⟩)
theorem i_vc_flow {k : Nat} {u : SX} {v : SY} (I : i_Rel k u v) (hk : k + 5 ≤ 2561) (v1 : Int32) (v2 : Int32) (v3 : Int32) (v4 : Int32) : wpX_flow (fun r u' => wpY_flow (fun r' v' => r' = r ∧ i_Rel (k + 5) u' v') v v1 v2 v3 v4) u v1 v2 v3 v4 := by
  obtain ⟨n, c, aR, aB, aF, aS, aT, aG, aU, aP, rfl, rfl, hI⟩ := I
  have J : i_Rel (k + 5) (nI n, nI (2 ^ n), nI c, aR, aB, aF, aS, aT, aG, aU) (nI n, nI (2 ^ n), nI c, aP, aF, aS, aT, aG, aU) := up_R hI
  obtain ⟨hn, hc, hR, hB, hF, hG, hU, hp⟩ := hI
  unfold wpX_flow
  dsimp only
  rcases up_ix v1 n (by omega) with hb | ⟨i, hi, rfl⟩
  · refine up_xv0 hb (br_t rfl ?_)
    unfold wpY_flow
    dsimp only
    exact up_yv0 hb (br_f (by decide) ⟨rfl, J⟩)
  · refine up_xv1 hi hn (br_f (by decide) ?_)
    rcases up_ix v2 n (by omega) with hb | ⟨j, hj, rfl⟩
    · refine up_xv0 hb (br_t rfl ?_)
      unfold wpY_flow
      dsimp only
      exact up_yv1 hi hn (br_t rfl (up_yv0 hb (br_f (by decide) ⟨rfl, J⟩)))
    · refine up_xv1 hj hn (br_f (by decide) ?_)
      by_cases hs : nI i = nI j
      · refine br_t hs ?_
        unfold wpY_flow
        dsimp only
        exact up_yv1 hi hn (br_t rfl (up_yv1 hj hn (br_t rfl (br_t hs ⟨rfl, J⟩))))
      · refine br_f hs ?_
        by_cases h30 : v3 < 0
        · refine up_xc0 (Or.inl h30) (br_t rfl ?_)
          unfold wpY_flow
          dsimp only
          exact up_yv1 hi hn (br_t rfl (up_yv1 hj hn (br_t rfl (br_f hs (br_t h30 ⟨rfl, J⟩)))))
        · by_cases h31 : 30 < v3
          · refine up_xc0 (Or.inr h31) (br_t rfl ?_)
            unfold wpY_flow
            dsimp only
            exact up_yv1 hi hn (br_t rfl (up_yv1 hj hn (br_t rfl (br_f hs (br_f h30 (br_t h31 ⟨rfl, J⟩))))))
          · refine up_xc1 h30 h31 (br_f (by decide) ?_)
            by_cases h40 : v4 < 0
            · refine up_xc0 (Or.inl h40) (br_t rfl ?_)
              unfold wpY_flow
              dsimp only
              exact up_yv1 hi hn (br_t rfl (up_yv1 hj hn (br_t rfl (br_f hs (br_f h30 (br_f h31 (br_t h40 ⟨rfl, J⟩)))))))
            · by_cases h41 : 30 < v4
              · refine up_xc0 (Or.inr h41) (br_t rfl ?_)
                unfold wpY_flow
                dsimp only
                exact up_yv1 hi hn (br_t rfl (up_yv1 hj hn (br_t rfl (br_f hs (br_f h30 (br_f h31 (br_f h40 (br_f (Int32.not_le.mpr h41) ⟨rfl, J⟩))))))))
              · have h4 : v4 ≤ 30 := Int32.not_lt.mp h41
                have m3 : ∃ m, m ≤ 30 ∧ v3 = nI m := nI_of2 (M := 30) (n := 30) (by decide) h30 (Int32.not_lt.mp h31)
                have m4 : ∃ m, m ≤ 30 ∧ v4 = nI m := nI_of2 (M := 30) (n := 30) (by decide) h40 h4
                refine up_xc1 h40 h41 (br_f (by decide) ?_)
                by_cases hlt : c < 20
                · have hl : nI c < 20 := nI_lt (b := 20) hlt (by decide)
                  have hin : vp_in (nI c) 20 := vp_in_nI hlt (by omega)
                  have ec : (nI c).toNatClampNeg = c := nI_clamp (by omega)
                  refine br_t hl ?_
                  rw [ec]
                  refine ⟨hin, nm_e ⟨hin, nm_e ⟨hin, nm_e ⟨hin, nm_e (nm_r (nI_1 c) ?_)⟩⟩⟩⟩
                  unfold wpY_flow
                  dsimp only
                  refine up_yv1 hi hn (br_t rfl (up_yv1 hj hn (br_t rfl (br_f hs (br_f h30 (br_f h31 (br_f h40 (br_t h4 (br_t hl ?_)))))))))
                  rw [ec]
                  refine ⟨hin, nm_e ⟨hin, nm_e ⟨hin, nm_e ⟨hin, nm_e (nm_r (nI_1 c) ⟨rfl, up_R ?_⟩)⟩⟩⟩⟩
                  exact ⟨hn, by omega, hR, hB, hF, up_bdU hG c m3, up_bdU hU c m4, hp⟩
                · have hl : ¬ nI c < 20 := nI_nlt (b := 20) (by omega) (by omega)
                  refine br_f hl ?_
                  unfold wpY_flow
                  dsimp only
                  exact up_yv1 hi hn (br_t rfl (up_yv1 hj hn (br_t rfl (br_f hs (br_f h30 (br_f h31 (br_f h40 (br_t h4 (br_f hl ⟨rfl, J⟩)))))))))
theorem up_shift {n c : Nat} {aR aB aF aP : Nat → Int32} (hc : c + 1 ≤ 20) : ∀ (d j : Nat) (aS aT aG aU : Nat → Int32), j + d = c → up_bd 30 20 aG → up_bd 30 20 aU → ∃ aS' aT' aG' aU' : Nat → Int32, up_bd 30 20 aG' ∧ up_bd 30 20 aU' ∧ (∀ post : Int32 → SX → Prop, post (nI c) (nI n, nI (2 ^ n), nI c, aR, aB, aF, aS', aT', aG', aU') → wX_cut_12 post (nI n) (nI (2 ^ n)) (nI (c + 1)) (d + 1) (nI j) aR aB aF aS aT aG aU) ∧ (∀ post : Int32 → SY → Prop, post (nI c) (nI n, nI (2 ^ n), nI c, aP, aF, aS', aT', aG', aU') → wY_cut_12 post (nI n) (nI (2 ^ n)) (nI (c + 1)) (d + 1) (nI j) aP aF aS aT aG aU) := by
  intro d
  have e1 : nI (c + 1) - 1 = nI c := nI_pred c
  induction d with
  | zero =>
    intro j aS aT aG aU hj hG hU
    have e : j = c := by omega
    subst e
    have hl : nI (j + 1) - 1 ≤ nI j := by rw [e1]; exact nI_le (Nat.le_refl _) (by omega)
    exact ⟨aS, aT, aG, aU, hG, hU, fun post hp => br_t hl (nm_r e1 hp), fun post hp => br_t hl (nm_r e1 hp)⟩
  | succ d ih =>
    intro j aS aT aG aU hj hG hU
    have hin : vp_in (nI j) 20 := vp_in_nI (by omega) (by omega)
    have hin1 : vp_in (nI j + 1) 20 := by rw [nI_1]; exact vp_in_nI (by omega) (by omega)
    have ec : (nI j).toNatClampNeg = j := nI_clamp (by omega)
    have ec1 : (nI j + 1).toNatClampNeg = j + 1 := by rw [nI_1]; exact nI_clamp (by omega)
    have hl : ¬ nI (c + 1) - 1 ≤ nI j := by rw [e1]; exact nI_ge (by omega) (by omega)
    have hl2 : ¬ (19 : Int32) ≤ nI j := nI_ge (b := 19) (by omega) (by decide)
    obtain ⟨aS', aT', aG', aU', hG', hU', hX, hY⟩ := ih (j + 1) (upd aS j (aS (j + 1))) (upd aT j (aT (j + 1))) (upd aG j (aG (j + 1))) (upd aU j (aU (j + 1))) (by omega) (up_bdU hG j (hG (j + 1) (by omega))) (up_bdU hU j (hU (j + 1) (by omega)))
    refine ⟨aS', aT', aG', aU', hG', hU', fun post hp => br_f hl ?_, fun post hp => br_f hl (br_f hl2 ?_)⟩
    · rw [ec, ec1]
      exact ⟨hin1, hin, nm_e ⟨hin1, hin, nm_e ⟨hin1, hin, nm_e ⟨hin1, hin, nm_e (nm_r (nI_1 j) (hX post hp))⟩⟩⟩⟩
    · rw [ec, ec1]
      exact ⟨hin1, hin, nm_e ⟨hin1, hin, nm_e ⟨hin1, hin, nm_e ⟨hin1, hin, nm_e (nm_r (nI_1 j) (hY post hp))⟩⟩⟩⟩
theorem i_vc_cut {k : Nat} {u : SX} {v : SY} (I : i_Rel k u v) (hk : k + 5 ≤ 2561) (v1 : Int32) : wpX_cut (fun r u' => wpY_cut (fun r' v' => r' = r ∧ i_Rel (k + 5) u' v') v v1) u v1 := by
  obtain ⟨n, c, aR, aB, aF, aS, aT, aG, aU, aP, rfl, rfl, hI⟩ := I
  have J : i_Rel (k + 5) (nI n, nI (2 ^ n), nI c, aR, aB, aF, aS, aT, aG, aU) (nI n, nI (2 ^ n), nI c, aP, aF, aS, aT, aG, aU) := up_R hI
  obtain ⟨hn, hc, hR, hB, hF, hG, hU, hp⟩ := hI
  unfold wpX_cut
  dsimp only
  rcases up_ix v1 c (by omega) with hb | ⟨j, hj, rfl⟩
  · refine up_xw0 hb (br_t rfl ?_)
    unfold wpY_cut
    dsimp only
    exact up_yw0 hb (br_f (by decide) ⟨rfl, J⟩)
  · obtain ⟨c', rfl⟩ : ∃ c', c = c' + 1 := ⟨c - 1, by omega⟩
    obtain ⟨aS', aT', aG', aU', hG', hU', hX, hY⟩ := up_shift (n := n) (c := c') (aR := aR) (aB := aB) (aF := aF) (aP := aP) hc (c' - j) j aS aT aG aU (by omega) hG hU
    refine up_xw1 hj hc (br_f (by decide) ⟨_, hX _ ?_⟩)
    unfold wpY_cut
    dsimp only
    exact up_yw1 hj hc (br_t rfl ⟨_, hY _ ⟨rfl, up_R ⟨hn, by omega, hR, hB, hF, hG', hU', hp⟩⟩⟩)
