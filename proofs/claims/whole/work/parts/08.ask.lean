theorem up_tb {n c : Nat} {aR aB aF aG aU aP : Nat → Int32} (hI : up_I n c aR aB aF aG aU aP) (aS aT : Nat → Int32) (p q : Int32) : ∃ m, m ≤ 1200 ∧ up_tc n c aR aB aS aT aG aU p q = nI m := by
  obtain ⟨hn, hc, hR, hB, hF, hG, hU, hp⟩ := hI
  exact up_tcb hn hc hR hB hG hU p q
theorem up_L {n c : Nat} {aR aB aF aG aU aP : Nat → Int32} (hI : up_I n c aR aB aF aG aU aP) (aS aT : Nat → Int32) (q : Int32) : ∃ L : Int32, up_it (up_Fx (fun k => up_Al n aF (nI k)) (fun k => up_tc n c aR aB aS aT aG aU (nI k) q)) 1201 (2 ^ n) = L ∧ up_it (up_Fy (fun k => up_Al n aF (nI k)) (fun k => up_tc n c aR aB aS aT aG aU (nI k) q)) (-1) (2 ^ n) = L := by
  rcases up_acc (fun k => up_Al n aF (nI k)) (fun k => up_tc n c aR aB aS aT aG aU (nI k) q) (-1) (by decide) (fun j => up_tb hI aS aT (nI j) q) (2 ^ n) with ⟨h, _⟩ | ⟨_, m, _, e1, e2⟩
  · obtain ⟨hn, hc, hR, hB, hF, hG, hU, hp⟩ := hI
    obtain ⟨j, hj, hA⟩ := up_ex hn hF
    exact absurd hA (h j hj)
  · exact ⟨nI m, e1, e2⟩
theorem i_vc_costOf {k : Nat} {u : SX} {v : SY} (I : i_Rel k u v) (hk : k + 5 ≤ 2561) (v1 : Int32) : wpX_costOf (fun r => wpY_costOf (fun r' => r' = r ∧ i_Rel (k + 5) u v) v v1) u v1 := by
  obtain ⟨n, c, aR, aB, aF, aS, aT, aG, aU, aP, rfl, rfl, hI⟩ := I
  have J : i_Rel (k + 5) (nI n, nI (2 ^ n), nI c, aR, aB, aF, aS, aT, aG, aU) (nI n, nI (2 ^ n), nI c, aP, aF, aS, aT, aG, aU) := up_R hI
  obtain ⟨hn, hc, hR, hB, hF, hG, hU, hp⟩ := hI
  have hP := up_pow hn
  unfold wpX_costOf
  dsimp only
  rcases up_ix v1 (2 ^ n) (by omega) with hb | ⟨j, hj, rfl⟩
  · refine up_xp0 hb (br_t rfl ?_)
    unfold wpY_costOf
    dsimp only
    by_cases z : v1 < 0
    · exact br_t z ⟨rfl, J⟩
    · exact br_f z (br_f (Int32.not_lt.mpr (hb.resolve_left z)) ⟨rfl, J⟩)
  · refine up_xp1 hj hn (br_f (by decide) (up_xtc hn hc ?_))
    unfold wpY_costOf
    dsimp only
    exact br_f (nI_pos (by omega)) (br_t (nI_lt hj (by omega)) (up_ytc hn hc hp ⟨rfl, J⟩))
theorem i_vc_best {k : Nat} {u : SX} {v : SY} (I : i_Rel k u v) (hk : k + 5 ≤ 2561) : wpX_best (fun r => wpY_best (fun r' => r' = r ∧ i_Rel (k + 5) u v) v) u := by
  obtain ⟨n, c, aR, aB, aF, aS, aT, aG, aU, aP, rfl, rfl, hI⟩ := I
  have J : i_Rel (k + 5) (nI n, nI (2 ^ n), nI c, aR, aB, aF, aS, aT, aG, aU) (nI n, nI (2 ^ n), nI c, aP, aF, aS, aT, aG, aU) := up_R hI
  obtain ⟨L, e1, e2⟩ := up_L hI aS aT (-1)
  obtain ⟨hn, hc, hR, hB, hF, hG, hU, hp⟩ := hI
  unfold wpX_best
  dsimp only
  refine up_xle hn hc ?_
  unfold wpY_best
  dsimp only
  exact up_yle hn hc hp ⟨e2.trans e1.symm, J⟩
theorem i_vc_fewestBoxed {k : Nat} {u : SX} {v : SY} (I : i_Rel k u v) (hk : k + 5 ≤ 2561) : wpX_fewestBoxed (fun r => wpY_fewestBoxed (fun r' => r' = r ∧ i_Rel (k + 5) u v) v) u := by
  obtain ⟨n, c, aR, aB, aF, aS, aT, aG, aU, aP, rfl, rfl, hI⟩ := I
  have J : i_Rel (k + 5) (nI n, nI (2 ^ n), nI c, aR, aB, aF, aS, aT, aG, aU) (nI n, nI (2 ^ n), nI c, aP, aF, aS, aT, aG, aU) := up_R hI
  obtain ⟨L, e1, e2⟩ := up_L hI aS aT (-1)
  obtain ⟨hn, hc, hR, hB, hF, hG, hU, hp⟩ := hI
  refine up_xco hn hc e1 ?_
  unfold wpY_fewestBoxed
  dsimp only
  exact up_yco hn hc hp e2 ⟨rfl, J⟩
theorem i_vc_mostBoxed {k : Nat} {u : SX} {v : SY} (I : i_Rel k u v) (hk : k + 5 ≤ 2561) : wpX_mostBoxed (fun r => wpY_mostBoxed (fun r' => r' = r ∧ i_Rel (k + 5) u v) v) u := by
  obtain ⟨n, c, aR, aB, aF, aS, aT, aG, aU, aP, rfl, rfl, hI⟩ := I
  have J : i_Rel (k + 5) (nI n, nI (2 ^ n), nI c, aR, aB, aF, aS, aT, aG, aU) (nI n, nI (2 ^ n), nI c, aP, aF, aS, aT, aG, aU) := up_R hI
  obtain ⟨L, e1, e2⟩ := up_L hI aS aT (-1)
  obtain ⟨hn, hc, hR, hB, hF, hG, hU, hp⟩ := hI
  refine up_xso hn hc e1 ?_
  unfold wpY_mostBoxed
  dsimp only
  exact up_yso hn hc hp e2 ⟨rfl, J⟩
theorem i_vc_settled {k : Nat} {u : SX} {v : SY} (I : i_Rel k u v) (hk : k + 5 ≤ 2561) (v1 : Int32) : wpX_settled (fun r => wpY_settled (fun r' => r' = r ∧ i_Rel (k + 5) u v) v v1) u v1 := by
  obtain ⟨n, c, aR, aB, aF, aS, aT, aG, aU, aP, rfl, rfl, hI⟩ := I
  have J : i_Rel (k + 5) (nI n, nI (2 ^ n), nI c, aR, aB, aF, aS, aT, aG, aU) (nI n, nI (2 ^ n), nI c, aP, aF, aS, aT, aG, aU) := up_R hI
  obtain ⟨L, e1, e2⟩ := up_L hI aS aT (-1)
  obtain ⟨hn, hc, hR, hB, hF, hG, hU, hp⟩ := hI
  unfold wpX_settled
  dsimp only
  rcases up_ix v1 n (by omega) with hb | ⟨j, hj, rfl⟩
  · refine up_xv0 hb (br_t rfl ?_)
    unfold wpY_settled
    dsimp only
    exact up_yv0 hb (br_f (by decide) ⟨rfl, J⟩)
  · refine up_xv1 hj hn (br_f (by decide) (up_xco hn hc e1 ?_))
    have key : ∀ post : Int32 → Prop, (wpY_form (fun r_32 => (((r_32 = 1 → (post 1)) ∧ (¬ r_32 = 1 → (wpY_form (fun r_43 => (((r_43 = 0 → (post 0)) ∧ (¬ r_43 = 0 → (post 2))))) (nI n, nI (2 ^ n), nI c, aP, aF, aS, aT, aG, aU) (up_it (up_Fo (fun k => up_Al n aF (nI k) ∧ up_tc n c aR aB aS aT aG aU (nI k) (-1) = L) (fun a b => a ||| b)) 0 (2 ^ n)) (nI j)))))) (nI n, nI (2 ^ n), nI c, aP, aF, aS, aT, aG, aU) (up_it (up_Fo (fun k => up_Al n aF (nI k) ∧ up_tc n c aR aB aS aT aG aU (nI k) (-1) = L) (fun a b => a &&& b)) (nI (2 ^ n) - 1) (2 ^ n)) (nI j)) → wpY_settled post (nI n, nI (2 ^ n), nI c, aP, aF, aS, aT, aG, aU) (nI j) := by
      intro post h
      unfold wpY_settled
      dsimp only
      exact up_yv1 hj hn (br_t rfl (up_yco hn hc hp e2 (up_yso hn hc hp e2 h)))
    generalize hA : up_it (up_Fo (fun k => up_Al n aF (nI k) ∧ up_tc n c aR aB aS aT aG aU (nI k) (-1) = L) (fun a b => a &&& b)) (nI (2 ^ n) - 1) (2 ^ n) = A at key ⊢
    by_cases y : up_fm A (nI j) = 1
    · exact br_t y (key _ (br_t y ⟨rfl, J⟩))
    · refine br_f y (up_xso hn hc e1 ?_)
      generalize hO : up_it (up_Fo (fun k => up_Al n aF (nI k) ∧ up_tc n c aR aB aS aT aG aU (nI k) (-1) = L) (fun a b => a ||| b)) 0 (2 ^ n) = O at key ⊢
      by_cases z : up_fm O (nI j) = 0
      · exact br_t z (key _ (br_f y (br_t z ⟨rfl, J⟩)))
      · exact br_f z (key _ (br_f y (br_f z ⟨rfl, J⟩)))
theorem i_vc_bestWith {k : Nat} {u : SX} {v : SY} (I : i_Rel k u v) (hk : k + 5 ≤ 2561) (v1 : Int32) (v2 : Int32) : wpX_bestWith (fun r => wpY_bestWith (fun r' => r' = r ∧ i_Rel (k + 5) u v) v v1 v2) u v1 v2 := by
  obtain ⟨n, c, aR, aB, aF, aS, aT, aG, aU, aP, rfl, rfl, hI⟩ := I
  have J : i_Rel (k + 5) (nI n, nI (2 ^ n), nI c, aR, aB, aF, aS, aT, aG, aU) (nI n, nI (2 ^ n), nI c, aP, aF, aS, aT, aG, aU) := up_R hI
  have hT := up_tb hI aS aT
  obtain ⟨hn, hc, hR, hB, hF, hG, hU, hp⟩ := hI
  unfold wpX_bestWith
  dsimp only
  rcases up_ix v1 n (by omega) with hb | ⟨j, hj, rfl⟩
  · refine up_xv0 hb (br_t rfl ?_)
    unfold wpY_bestWith
    dsimp only
    exact up_yv0 hb (br_f (by decide) ⟨rfl, J⟩)
  · refine up_xv1 hj hn (br_f (by decide) ?_)
    by_cases hf : v2 = 0 ∨ v2 = 1
    · refine up_xf1 hf (br_f (by decide) ?_)
      have hin : vp_in (nI j) 10 := vp_in_nI (by omega) (by omega)
      have ec : (nI j).toNatClampNeg = j := nI_clamp (by omega)
      have key : ∀ post : Int32 → Prop, post (up_it (up_Fy (fun k => up_Al n aF (nI k) ∧ up_fm (nI k) (nI j) = v2) (fun k => up_tc n c aR aB aS aT aG aU (nI k) (-1))) (-3) (2 ^ n)) → wpY_bestWith post (nI n, nI (2 ^ n), nI c, aP, aF, aS, aT, aG, aU) (nI j) v2 := by
        intro post h
        unfold wpY_bestWith
        dsimp only
        exact up_yv1 hj hn (br_t rfl (up_or hf (up_ybw hn hc hp h)))
      have hacc := up_acc (fun k => up_Al n aF (nI k) ∧ up_fm (nI k) (nI j) = v2) (fun k => up_tc n c aR aB aS aT aG aU (nI k) (-1)) (-3) (by decide) (fun i => hT (nI i) (-1)) (2 ^ n)
      have good : aF j = 2 ∨ aF j = v2 → ∃ n51 : Nat, wX_bestWith_51 (fun r => wpY_bestWith (fun r' => r' = r ∧ i_Rel (k + 5) (nI n, nI (2 ^ n), nI c, aR, aB, aF, aS, aT, aG, aU) (nI n, nI (2 ^ n), nI c, aP, aF, aS, aT, aG, aU)) (nI n, nI (2 ^ n), nI c, aP, aF, aS, aT, aG, aU) (nI j) v2) (nI j) v2 (nI n) (nI (2 ^ n)) (nI c) aR aB aF aS aT aG aU n51 1201 0 := by
        intro hg
        refine up_xbw hn hc (key _ ⟨?_, J⟩)
        rcases hacc with ⟨h, _⟩ | ⟨_, m, _, e1, e2⟩
        · obtain ⟨i, hi, hA, hv⟩ := up_exW hn hF hj hf hg
          exact absurd ⟨hA, hv⟩ (h i hi)
        · exact e2.trans e1.symm
      rw [ec]
      refine ⟨hin, ?_⟩
      by_cases h2 : aF j = 2
      · exact br_t h2 (good (Or.inl h2))
      · refine br_f h2 ⟨hin, ?_⟩
        by_cases h3 : aF j = v2
        · exact br_t h3 (good (Or.inr h3))
        · refine br_f h3 (key _ ⟨?_, J⟩)
          rcases hacc with ⟨_, _, e⟩ | ⟨⟨i, hi, hA, hv⟩, _⟩
          · exact e
          · rcases hA j hj with h | h
            · exact absurd h h2
            · exact absurd (h.trans hv) h3
    · refine up_xf0 hf (br_t rfl ?_)
      unfold wpY_bestWith
      dsimp only
      exact up_yv1 hj hn (br_t rfl (br_f (fun z => hf (Or.inl z)) (br_f (fun z => hf (Or.inr z)) ⟨rfl, J⟩)))
theorem i_vc_bestTied {k : Nat} {u : SX} {v : SY} (I : i_Rel k u v) (hk : k + 5 ≤ 2561) (v1 : Int32) (v2 : Int32) (v3 : Int32) : wpX_bestTied (fun r => wpY_bestTied (fun r' => r' = r ∧ i_Rel (k + 5) u v) v v1 v2 v3) u v1 v2 v3 := by
  obtain ⟨n, c, aR, aB, aF, aS, aT, aG, aU, aP, rfl, rfl, hI⟩ := I
  have J : i_Rel (k + 5) (nI n, nI (2 ^ n), nI c, aR, aB, aF, aS, aT, aG, aU) (nI n, nI (2 ^ n), nI c, aP, aF, aS, aT, aG, aU) := up_R hI
  have hT := up_tb hI aS aT
  obtain ⟨hn, hc, hR, hB, hF, hG, hU, hp⟩ := hI
  unfold wpX_bestTied
  dsimp only
  rcases up_ix v1 n (by omega) with hb | ⟨i, hi, rfl⟩
  · refine up_xv0 hb (br_t rfl ?_)
    unfold wpY_bestTied
    dsimp only
    exact up_yv0 hb (br_f (by decide) ⟨rfl, J⟩)
  · refine up_xv1 hi hn (br_f (by decide) ?_)
    rcases up_ix v2 n (by omega) with hb | ⟨j, hj, rfl⟩
    · refine up_xv0 hb (br_t rfl ?_)
      unfold wpY_bestTied
      dsimp only
      exact up_yv1 hi hn (br_t rfl (up_yv0 hb (br_f (by decide) ⟨rfl, J⟩)))
    · refine up_xv1 hj hn (br_f (by decide) ?_)
      have key : ∀ post : Int32 → Prop, post (up_it (up_Fy (up_Ct n aF (nI i) (nI j) v3) (fun k => up_tc n c aR aB aS aT aG aU (nI k) (-1))) (-2) (2 ^ n)) → wpY_bestTied post (nI n, nI (2 ^ n), nI c, aP, aF, aS, aT, aG, aU) (nI i) (nI j) v3 := by
        intro post h
        unfold wpY_bestTied
        dsimp only
        exact up_yv1 hi hn (br_t rfl (up_yv1 hj hn (br_t rfl (up_ybt hn hc hp h))))
      have hacc := up_acc (up_Ct n aF (nI i) (nI j) v3) (fun k => up_tc n c aR aB aS aT aG aU (nI k) (-1)) (-2) (by decide) (fun i => hT (nI i) (-1)) (2 ^ n)
      have good : ∀ w : Int32, (w = 0 ∧ v3 = 0) ∨ (w = 1 ∧ ¬ v3 = 0) → ∃ n37 : Nat, wX_bestTied_37 (fun r => wpY_bestTied (fun r' => r' = r ∧ i_Rel (k + 5) (nI n, nI (2 ^ n), nI c, aR, aB, aF, aS, aT, aG, aU) (nI n, nI (2 ^ n), nI c, aP, aF, aS, aT, aG, aU)) (nI n, nI (2 ^ n), nI c, aP, aF, aS, aT, aG, aU) (nI i) (nI j) v3) (nI i) (nI j) w (nI n) (nI (2 ^ n)) (nI c) aR aB aF aS aT aG aU n37 1201 0 := by
        intro w hw
        refine up_xbt hn hc hw ?_
        rcases hacc with ⟨_, e1, e2⟩ | ⟨_, m, hm, e1, e2⟩
        · exact br_t e1 (key _ ⟨e2, J⟩)
        · have ne : ¬ up_it (up_Fx (up_Ct n aF (nI i) (nI j) v3) (fun k => up_tc n c aR aB aS aT aG aU (nI k) (-1))) 1201 (2 ^ n) = 1201 := by
            rw [e1]
            intro h
            have h' : m = 1201 := (nI_eq (b := 1201) (by omega) (by decide)).mp h
            omega
          exact br_f ne (key _ ⟨e2.trans e1.symm, J⟩)
      by_cases h : v3 = 0
      · exact br_t h (good 0 (Or.inl ⟨rfl, h⟩))
      · exact br_f h (good 1 (Or.inr ⟨rfl, h⟩))
theorem i_vc_saving {k : Nat} {u : SX} {v : SY} (I : i_Rel k u v) (hk : k + 5 ≤ 2561) (v1 : Int32) : wpX_saving (fun r => wpY_saving (fun r' => r' = r ∧ i_Rel (k + 5) u v) v v1) u v1 := by
  obtain ⟨n, c, aR, aB, aF, aS, aT, aG, aU, aP, rfl, rfl, hI⟩ := I
  have J : i_Rel (k + 5) (nI n, nI (2 ^ n), nI c, aR, aB, aF, aS, aT, aG, aU) (nI n, nI (2 ^ n), nI c, aP, aF, aS, aT, aG, aU) := up_R hI
  obtain ⟨L, e1, e2⟩ := up_L hI aS aT (-1)
  obtain ⟨M, f1, f2⟩ := up_L hI aS aT v1
  obtain ⟨hn, hc, hR, hB, hF, hG, hU, hp⟩ := hI
  unfold wpX_saving
  dsimp only
  rcases up_ix v1 c (by omega) with hb | ⟨j, hj, rfl⟩
  · refine up_xw0 hb (br_t rfl ?_)
    unfold wpY_saving
    dsimp only
    exact up_yw0 hb (br_f (by decide) ⟨rfl, J⟩)
  · refine up_xw1 hj hc (br_f (by decide) (up_xle hn hc (up_xle hn hc ?_)))
    unfold wpY_saving
    dsimp only
    refine up_yw1 hj hc (br_t rfl (up_yle hn hc hp (up_yle hn hc hp ⟨?_, J⟩)))
    rw [e1, e2, f1, f2]
theorem i_vc_isBest {k : Nat} {u : SX} {v : SY} (I : i_Rel k u v) (hk : k + 5 ≤ 2561) (v1 : Int32) : wpX_isBest (fun r => wpY_isBest (fun r' => r' = r ∧ i_Rel (k + 5) u v) v v1) u v1 := by
  obtain ⟨n, c, aR, aB, aF, aS, aT, aG, aU, aP, rfl, rfl, hI⟩ := I
  have J : i_Rel (k + 5) (nI n, nI (2 ^ n), nI c, aR, aB, aF, aS, aT, aG, aU) (nI n, nI (2 ^ n), nI c, aP, aF, aS, aT, aG, aU) := up_R hI
  obtain ⟨L, e1, e2⟩ := up_L hI aS aT (-1)
  obtain ⟨hn, hc, hR, hB, hF, hG, hU, hp⟩ := hI
  have hP := up_pow hn
  unfold wpX_isBest
  dsimp only
  rcases up_ix v1 (2 ^ n) (by omega) with hb | ⟨j, hj, rfl⟩
  · refine up_xp0 hb (br_t rfl ?_)
    unfold wpY_isBest
    dsimp only
    by_cases z : v1 < 0
    · exact br_t z ⟨rfl, J⟩
    · exact br_f z (br_f (Int32.not_lt.mpr (hb.resolve_left z)) ⟨rfl, J⟩)
  · refine up_xp1 hj hn (br_f (by decide) (up_xle hn hc ?_))
    rw [e1]
    refine up_xat hn hc (fun hA => br_f (by decide) ?_) (fun hA => br_t rfl ?_)
    · unfold wpY_isBest
      dsimp only
      refine br_f (nI_pos (by omega)) (br_t (nI_lt hj (by omega)) (up_yle hn hc hp ?_))
      rw [e2]
      exact up_yal hn (fun _ => br_f (by decide) (up_ytc hn hc hp (br_t hA.2 ⟨rfl, J⟩))) (fun h => absurd hA.1 h)
    · unfold wpY_isBest
      dsimp only
      refine br_f (nI_pos (by omega)) (br_t (nI_lt hj (by omega)) (up_yle hn hc hp ?_))
      rw [e2]
      exact up_yal hn (fun h => br_f (by decide) (up_ytc hn hc hp (br_f (fun z => hA ⟨h, z⟩) ⟨rfl, J⟩))) (fun h => br_t rfl ⟨rfl, J⟩)
theorem i_vc_settledCount {k : Nat} {u : SX} {v : SY} (I : i_Rel k u v) (hk : k + 5 ≤ 2561) : wpX_settledCount (fun r => wpY_settledCount (fun r' => r' = r ∧ i_Rel (k + 5) u v) v) u := by
  obtain ⟨n, c, aR, aB, aF, aS, aT, aG, aU, aP, rfl, rfl, hI⟩ := I
  have J : i_Rel (k + 5) (nI n, nI (2 ^ n), nI c, aR, aB, aF, aS, aT, aG, aU) (nI n, nI (2 ^ n), nI c, aP, aF, aS, aT, aG, aU) := up_R hI
  obtain ⟨L, e1, e2⟩ := up_L hI aS aT (-1)
  obtain ⟨hn, hc, hR, hB, hF, hG, hU, hp⟩ := hI
  unfold wpX_settledCount
  dsimp only
  refine up_xco hn hc e1 (up_xso hn hc e1 (up_xsc hn ?_))
  unfold wpY_settledCount
  dsimp only
  exact up_yco hn hc hp e2 (up_yso hn hc hp e2 (up_ysc hn ⟨rfl, J⟩))
