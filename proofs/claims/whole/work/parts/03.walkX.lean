theorem up_xv0 {n c : Nat} {aR aB aF aS aT aG aU : Nat → Int32} {post : Int32 → Prop} {v : Int32} (h : v < 0 ∨ nI n ≤ v) (hp : post 0) : wpX_isValue post (nI n, nI (2 ^ n), nI c, aR, aB, aF, aS, aT, aG, aU) v := by
  by_cases z : v < 0
  · exact br_t z hp
  · exact br_f z (br_t (h.resolve_left z) hp)
theorem up_xv1 {n c : Nat} {aR aB aF aS aT aG aU : Nat → Int32} {post : Int32 → Prop} {j : Nat} (hj : j < n) (hn : n ≤ 10) (hp : post 1) : wpX_isValue post (nI n, nI (2 ^ n), nI c, aR, aB, aF, aS, aT, aG, aU) (nI j) :=
  br_f (nI_pos (by omega)) (br_f (nI_ge hj (by omega)) hp)
theorem up_xw0 {n c : Nat} {aR aB aF aS aT aG aU : Nat → Int32} {post : Int32 → Prop} {v : Int32} (h : v < 0 ∨ nI c ≤ v) (hp : post 0) : wpX_isFlow post (nI n, nI (2 ^ n), nI c, aR, aB, aF, aS, aT, aG, aU) v := by
  by_cases z : v < 0
  · exact br_t z hp
  · exact br_f z (br_t (h.resolve_left z) hp)
theorem up_xw1 {n c : Nat} {aR aB aF aS aT aG aU : Nat → Int32} {post : Int32 → Prop} {j : Nat} (hj : j < c) (hc : c ≤ 20) (hp : post 1) : wpX_isFlow post (nI n, nI (2 ^ n), nI c, aR, aB, aF, aS, aT, aG, aU) (nI j) :=
  br_f (nI_pos (by omega)) (br_f (nI_ge hj (by omega)) hp)
theorem up_xp0 {n c : Nat} {aR aB aF aS aT aG aU : Nat → Int32} {post : Int32 → Prop} {v : Int32} (h : v < 0 ∨ nI (2 ^ n) ≤ v) (hp : post 0) : wpX_isPlan post (nI n, nI (2 ^ n), nI c, aR, aB, aF, aS, aT, aG, aU) v := by
  by_cases z : v < 0
  · exact br_t z hp
  · exact br_f z (br_t (h.resolve_left z) hp)
theorem up_xp1 {n c : Nat} {aR aB aF aS aT aG aU : Nat → Int32} {post : Int32 → Prop} {j : Nat} (hj : j < 2 ^ n) (hn : n ≤ 10) (hp : post 1) : wpX_isPlan post (nI n, nI (2 ^ n), nI c, aR, aB, aF, aS, aT, aG, aU) (nI j) := by
  have h := up_pow hn
  exact br_f (nI_pos (by omega)) (br_f (nI_ge hj (by omega)) hp)
theorem up_xf1 {n c : Nat} {aR aB aF aS aT aG aU : Nat → Int32} {post : Int32 → Prop} {f : Int32} (h : f = 0 ∨ f = 1) (hp : post 1) : wpX_isForm post (nI n, nI (2 ^ n), nI c, aR, aB, aF, aS, aT, aG, aU) f := by
  by_cases z : f = 0
  · exact br_t z hp
  · exact br_f z (br_t (h.resolve_left z) hp)
theorem up_xf0 {n c : Nat} {aR aB aF aS aT aG aU : Nat → Int32} {post : Int32 → Prop} {f : Int32} (h : ¬ (f = 0 ∨ f = 1)) (hp : post 0) : wpX_isForm post (nI n, nI (2 ^ n), nI c, aR, aB, aF, aS, aT, aG, aU) f :=
  br_f (fun z => h (Or.inl z)) (br_f (fun z => h (Or.inr z)) hp)
theorem up_xc1 {n c : Nat} {aR aB aF aS aT aG aU : Nat → Int32} {post : Int32 → Prop} {f : Int32} (h0 : ¬ f < 0) (h : ¬ 30 < f) (hp : post 1) : wpX_isFlowCost post (nI n, nI (2 ^ n), nI c, aR, aB, aF, aS, aT, aG, aU) f :=
  br_f h0 (br_f h hp)
theorem up_xc0 {n c : Nat} {aR aB aF aS aT aG aU : Nat → Int32} {post : Int32 → Prop} {f : Int32} (h : f < 0 ∨ 30 < f) (hp : post 0) : wpX_isFlowCost post (nI n, nI (2 ^ n), nI c, aR, aB, aF, aS, aT, aG, aU) f := by
  by_cases z : f < 0
  · exact br_t z hp
  · exact br_f z (br_t (h.resolve_left z) hp)
theorem up_xal {n c : Nat} {aR aB aF aS aT aG aU : Nat → Int32} {post : Int32 → Prop} {p : Int32} (hn : n ≤ 10) (h1 : up_Al n aF p → post 1) (h0 : ¬ up_Al n aF p → post 0) : wpX_isAllowed post (nI n, nI (2 ^ n), nI c, aR, aB, aF, aS, aT, aG, aU) p := by
  have h : ∀ d j, j + d = n → (∀ i, i < j → aF i = 2 ∨ aF i = up_fm p (nI i)) → wX_isAllowed_2 post p (nI n) (nI (2 ^ n)) (nI c) aR aB aF aS aT aG aU (d + 1) (nI j) := by
    intro d
    induction d with
    | zero =>
      intro j hj hi
      have e : j = n := by omega
      subst e
      exact br_t (nI_le (Nat.le_refl _) (by omega)) (h1 hi)
    | succ d ih =>
      intro j hj hi
      have hin : vp_in (nI j) 10 := vp_in_nI (by omega) (by omega)
      have ec : (nI j).toNatClampNeg = j := nI_clamp (by omega)
      refine br_f (nI_ge (by omega) (by omega)) ⟨hin, ?_⟩
      rw [ec]
      by_cases z : aF j = 2
      · exact br_t z (nm_r (nI_1 j) (ih (j + 1) (by omega) (lt_s hi (Or.inl z))))
      · refine br_f z ⟨hin, ?_⟩
        by_cases y : aF j = up_fm p (nI j)
        · exact br_t y (nm_r (nI_1 j) (ih (j + 1) (by omega) (lt_s hi (Or.inr y))))
        · exact br_f y (h0 fun H => (H j (by omega)).elim z y)
  exact Exists.intro (n + 1) (h n 0 (by omega) (fun i hi => absurd hi (by omega)))
theorem up_xtc {n c : Nat} {aR aB aF aS aT aG aU : Nat → Int32} {post : Int32 → Prop} {p q : Int32} (hn : n ≤ 10) (hc : c ≤ 20) (h : post (up_tc n c aR aB aS aT aG aU p q)) : wpX_planCost post (nI n, nI (2 ^ n), nI c, aR, aB, aF, aS, aT, aG, aU) p q := by
  show ∃ n5 : Nat, wX_planCost_5 post p q (nI n) (nI (2 ^ n)) (nI c) aR aB aF aS aT aG aU n5 0 0
  refine up_lp (up_Fv aR aB p) 0 n (fun m x i => wX_planCost_5 post p q (nI n) (nI (2 ^ n)) (nI c) aR aB aF aS aT aG aU m x i) (fun m => ?_) (fun m j x hj H => ?_)
  · refine br_t (nI_le (Nat.le_refl _) (by omega)) ?_
    refine up_lp (up_Ff aS aT aG aU p q) (up_it (up_Fv aR aB p) 0 n) c (fun m x i => wX_planCost_43 post p q (nI n) (nI (2 ^ n)) (nI c) aR aB aF aS aT aG aU m x i) (fun m => ?_) (fun m j x hj H => ?_)
    · exact br_t (nI_le (Nat.le_refl _) (by omega)) h
    · have hin : vp_in (nI j) 20 := vp_in_nI (by omega) (by omega)
      have ec : (nI j).toNatClampNeg = j := nI_clamp (by omega)
      refine br_f (nI_ge hj (by omega)) ?_
      by_cases y : nI j = q
      · have e : up_Ff aS aT aG aU p q j x = x := by unfold up_Ff; rw [up_ifT y, Int32.add_zero]
        rw [e] at H
        exact br_t y (nm_r (nI_1 j) H)
      · refine br_f y ⟨hin, ?_⟩
        rw [ec]
        refine And.intro hin ?_
        by_cases z : up_fm p (aS j) = up_fm p (aT j)
        · have e : x + 0 = up_Ff aS aT aG aU p q j x := by unfold up_Ff; rw [up_ifF y, up_ifT z]
          exact br_t z (nm_r e (nm_r (nI_1 j) H))
        · by_cases w : up_fm p (aS j) = 0
          · have e : x + aG (nI j).toNatClampNeg = up_Ff aS aT aG aU p q j x := by unfold up_Ff; rw [up_ifF y, up_ifF z, up_ifT w, ec]
            exact br_f z (br_t w ⟨hin, nm_r e (nm_r (nI_1 j) H)⟩)
          · have e : x + aU (nI j).toNatClampNeg = up_Ff aS aT aG aU p q j x := by unfold up_Ff; rw [up_ifF y, up_ifF z, up_ifF w, ec]
            exact br_f z (br_f w ⟨hin, nm_r e (nm_r (nI_1 j) H)⟩)
  · have hin : vp_in (nI j) 10 := vp_in_nI (by omega) (by omega)
    have ec : (nI j).toNatClampNeg = j := nI_clamp (by omega)
    refine br_f (nI_ge hj (by omega)) ?_
    by_cases z : up_fm p (nI j) = 1
    · have e : x + aB (nI j).toNatClampNeg = up_Fv aR aB p j x := by unfold up_Fv; rw [up_ifT z, ec]
      exact br_t z ⟨hin, nm_r e (nm_r (nI_1 j) H)⟩
    · have e : x + aR (nI j).toNatClampNeg = up_Fv aR aB p j x := by unfold up_Fv; rw [up_ifF z, ec]
      exact br_f z ⟨hin, nm_r e (nm_r (nI_1 j) H)⟩
theorem up_xle {n c : Nat} {aR aB aF aS aT aG aU : Nat → Int32} {post : Int32 → Prop} {q : Int32} (hn : n ≤ 10) (hc : c ≤ 20) (h : post (up_it (up_Fx (fun k => up_Al n aF (nI k)) (fun k => up_tc n c aR aB aS aT aG aU (nI k) q)) 1201 (2 ^ n))) : wpX_leastCost post (nI n, nI (2 ^ n), nI c, aR, aB, aF, aS, aT, aG, aU) q := by
  have hP := up_pow hn
  show ∃ n6 : Nat, wX_leastCost_6 post q (nI n) (nI (2 ^ n)) (nI c) aR aB aF aS aT aG aU n6 1201 0
  refine up_lp (up_Fx (fun k => up_Al n aF (nI k)) (fun k => up_tc n c aR aB aS aT aG aU (nI k) q)) 1201 (2 ^ n) (fun m x i => wX_leastCost_6 post q (nI n) (nI (2 ^ n)) (nI c) aR aB aF aS aT aG aU m x i) (fun m => ?_) (fun m j x hj H => ?_)
  · exact br_t (nI_le (Nat.le_refl _) (by omega)) h
  · refine br_f (nI_ge hj (by omega)) (up_xal hn (fun hA => ?_) (fun hA => ?_))
    · refine br_f (by decide) (up_xtc hn hc ?_)
      by_cases z : x ≤ up_tc n c aR aB aS aT aG aU (nI j) q
      · have e : up_Fx (fun k => up_Al n aF (nI k)) (fun k => up_tc n c aR aB aS aT aG aU (nI k) q) j x = x := by
          unfold up_Fx; rw [up_ifT hA, up_ifT z]
        rw [e] at H
        exact br_t z (nm_r (nI_1 j) H)
      · have e : up_Fx (fun k => up_Al n aF (nI k)) (fun k => up_tc n c aR aB aS aT aG aU (nI k) q) j x = up_tc n c aR aB aS aT aG aU (nI j) q := by
          unfold up_Fx; rw [up_ifT hA, up_ifF z]
        rw [e] at H
        exact br_f z (nm_r (nI_1 j) H)
    · have e : up_Fx (fun k => up_Al n aF (nI k)) (fun k => up_tc n c aR aB aS aT aG aU (nI k) q) j x = x := by
        unfold up_Fx; rw [up_ifF hA]
      rw [e] at H
      exact br_t rfl (nm_r (nI_1 j) H)
theorem up_xat {n c : Nat} {aR aB aF aS aT aG aU : Nat → Int32} {post : Int32 → Prop} {p q : Int32} (hn : n ≤ 10) (hc : c ≤ 20) (h1 : (up_Al n aF p ∧ up_tc n c aR aB aS aT aG aU p (-1) = q) → post 1) (h0 : ¬ (up_Al n aF p ∧ up_tc n c aR aB aS aT aG aU p (-1) = q) → post 0) : wpX_isAllowedAt post (nI n, nI (2 ^ n), nI c, aR, aB, aF, aS, aT, aG, aU) p q := by
  unfold wpX_isAllowedAt
  dsimp only
  refine up_xal hn (fun hA => ?_) (fun hA => ?_)
  · refine br_f (by decide) (up_xtc hn hc ?_)
    by_cases z : up_tc n c aR aB aS aT aG aU p (-1) = q
    · exact br_t z (h1 ⟨hA, z⟩)
    · exact br_f z (h0 fun H => z H.2)
  · exact br_t rfl (h0 fun H => hA H.1)
theorem up_xco {n c : Nat} {aR aB aF aS aT aG aU : Nat → Int32} {post : Int32 → Prop} {L : Int32} (hn : n ≤ 10) (hc : c ≤ 20) (hL : up_it (up_Fx (fun k => up_Al n aF (nI k)) (fun k => up_tc n c aR aB aS aT aG aU (nI k) (-1))) 1201 (2 ^ n) = L) (h : post (up_it (up_Fo (fun k => up_Al n aF (nI k) ∧ up_tc n c aR aB aS aT aG aU (nI k) (-1) = L) (fun a b => a &&& b)) (nI (2 ^ n) - 1) (2 ^ n))) : wpX_fewestBoxed post (nI n, nI (2 ^ n), nI c, aR, aB, aF, aS, aT, aG, aU) := by
  have hP := up_pow hn
  unfold wpX_fewestBoxed
  dsimp only
  refine up_xle hn hc ?_
  rw [hL]
  refine nm_e ?_
  refine up_lp (up_Fo (fun k => up_Al n aF (nI k) ∧ up_tc n c aR aB aS aT aG aU (nI k) (-1) = L) (fun a b => a &&& b)) (nI (2 ^ n) - 1) (2 ^ n) (fun m x i => wX_fewestBoxed_15 post L (nI n) (nI (2 ^ n)) (nI c) aR aB aF aS aT aG aU m x i) (fun m => ?_) (fun m j x hj H => ?_)
  · exact br_t (nI_le (Nat.le_refl _) (by omega)) h
  · refine br_f (nI_ge hj (by omega)) (up_xat hn hc (fun hA => ?_) (fun hA => ?_))
    · have e : x &&& nI j = up_Fo (fun k => up_Al n aF (nI k) ∧ up_tc n c aR aB aS aT aG aU (nI k) (-1) = L) (fun a b => a &&& b) j x := by
        unfold up_Fo; rw [up_ifT hA]
      exact br_f (by decide) (nm_r e (nm_r (nI_1 j) H))
    · have e : up_Fo (fun k => up_Al n aF (nI k) ∧ up_tc n c aR aB aS aT aG aU (nI k) (-1) = L) (fun a b => a &&& b) j x = x := by
        unfold up_Fo; rw [up_ifF hA]
      rw [e] at H
      exact br_t rfl (nm_r (nI_1 j) H)
theorem up_xso {n c : Nat} {aR aB aF aS aT aG aU : Nat → Int32} {post : Int32 → Prop} {L : Int32} (hn : n ≤ 10) (hc : c ≤ 20) (hL : up_it (up_Fx (fun k => up_Al n aF (nI k)) (fun k => up_tc n c aR aB aS aT aG aU (nI k) (-1))) 1201 (2 ^ n) = L) (h : post (up_it (up_Fo (fun k => up_Al n aF (nI k) ∧ up_tc n c aR aB aS aT aG aU (nI k) (-1) = L) (fun a b => a ||| b)) 0 (2 ^ n))) : wpX_mostBoxed post (nI n, nI (2 ^ n), nI c, aR, aB, aF, aS, aT, aG, aU) := by
  have hP := up_pow hn
  unfold wpX_mostBoxed
  dsimp only
  refine up_xle hn hc ?_
  rw [hL]
  refine up_lp (up_Fo (fun k => up_Al n aF (nI k) ∧ up_tc n c aR aB aS aT aG aU (nI k) (-1) = L) (fun a b => a ||| b)) 0 (2 ^ n) (fun m x i => wX_mostBoxed_10 post L (nI n) (nI (2 ^ n)) (nI c) aR aB aF aS aT aG aU m x i) (fun m => ?_) (fun m j x hj H => ?_)
  · exact br_t (nI_le (Nat.le_refl _) (by omega)) h
  · refine br_f (nI_ge hj (by omega)) (up_xat hn hc (fun hA => ?_) (fun hA => ?_))
    · have e : x ||| nI j = up_Fo (fun k => up_Al n aF (nI k) ∧ up_tc n c aR aB aS aT aG aU (nI k) (-1) = L) (fun a b => a ||| b) j x := by
        unfold up_Fo; rw [up_ifT hA]
      exact br_f (by decide) (nm_r e (nm_r (nI_1 j) H))
    · have e : up_Fo (fun k => up_Al n aF (nI k) ∧ up_tc n c aR aB aS aT aG aU (nI k) (-1) = L) (fun a b => a ||| b) j x = x := by
        unfold up_Fo; rw [up_ifF hA]
      rw [e] at H
      exact br_t rfl (nm_r (nI_1 j) H)
