theorem up_yv0 {n c : Nat} {aP aF aS aT aG aU : Nat → Int32} {post : Int32 → Prop} {v : Int32} (h : v < 0 ∨ nI n ≤ v) (hp : post 1) : wpY_bad post (nI n, nI (2 ^ n), nI c, aP, aF, aS, aT, aG, aU) v := by
  by_cases z : v < 0
  · exact br_t z hp
  · exact br_f z (br_t (h.resolve_left z) hp)
theorem up_yv1 {n c : Nat} {aP aF aS aT aG aU : Nat → Int32} {post : Int32 → Prop} {j : Nat} (hj : j < n) (hn : n ≤ 10) (hp : post 0) : wpY_bad post (nI n, nI (2 ^ n), nI c, aP, aF, aS, aT, aG, aU) (nI j) :=
  br_f (nI_pos (by omega)) (br_f (nI_ge hj (by omega)) (br_t (nI_lt (b := 10) (by omega) (by decide)) hp))
theorem up_yw0 {n c : Nat} {aP aF aS aT aG aU : Nat → Int32} {post : Int32 → Prop} {v : Int32} (h : v < 0 ∨ nI c ≤ v) (hp : post 1) : wpY_badFlow post (nI n, nI (2 ^ n), nI c, aP, aF, aS, aT, aG, aU) v := by
  by_cases z : v < 0
  · exact br_t z hp
  · exact br_f z (br_t (h.resolve_left z) hp)
theorem up_yw1 {n c : Nat} {aP aF aS aT aG aU : Nat → Int32} {post : Int32 → Prop} {j : Nat} (hj : j < c) (hc : c ≤ 20) (hp : post 0) : wpY_badFlow post (nI n, nI (2 ^ n), nI c, aP, aF, aS, aT, aG, aU) (nI j) :=
  br_f (nI_pos (by omega)) (br_f (nI_ge hj (by omega)) (br_t (nI_lt (b := 20) (by omega) (by decide)) hp))
theorem up_yal {n c : Nat} {aP aF aS aT aG aU : Nat → Int32} {post : Int32 → Prop} {p : Int32} (hn : n ≤ 10) (h1 : up_Al n aF p → post 1) (h0 : ¬ up_Al n aF p → post 0) : wpY_allowed post (nI n, nI (2 ^ n), nI c, aP, aF, aS, aT, aG, aU) p := by
  have h : ∀ d j, j + d = n → (∀ i, i < j → aF i = 2 ∨ aF i = up_fm p (nI i)) → wY_allowed_2 post p (nI n) (nI (2 ^ n)) (nI c) aP aF aS aT aG aU (d + 1) (nI j) := by
    intro d
    induction d with
    | zero =>
      intro j hj hi
      have e : j = n := by omega
      subst e
      exact br_t (nI_le (Nat.le_refl _) (by omega)) (h1 hi)
    | succ d ih =>
      intro j hj hi
      have hin : vp_in (nI j) 10 := vp_in_nI (by omega) (by omega)
      have ec : (nI j).toNatClampNeg = j := nI_clamp (by omega)
      refine br_f (nI_ge (by omega) (by omega)) (br_f (nI_ge (b := 10) (by omega) (by decide)) ⟨hin, ?_⟩)
      rw [ec]
      by_cases z : aF j = 2
      · exact br_t z (nm_r (nI_1 j) (ih (j + 1) (by omega) (lt_s hi (Or.inl z))))
      · refine br_f z ⟨hin, ?_⟩
        by_cases y : aF j = up_fm p (nI j)
        · exact br_t y (nm_r (nI_1 j) (ih (j + 1) (by omega) (lt_s hi (Or.inr y))))
        · exact br_f y (h0 fun H => (H j (by omega)).elim z y)
  exact Exists.intro (n + 1) (h n 0 (by omega) (fun i hi => absurd hi (by omega)))
/-- where the one side keeps both prices of a value, and the other each in a table of its own -/
def up_pr (aP aR aB : Nat → Int32) : Prop := ∀ i, i < 10 → aP (2 * i) = aR i ∧ aP (2 * i + 1) = aB i
theorem up_2i (i : Nat) : (2 : Int32) * nI i = nI (2 * i) := by
  show nI 2 * nI i = nI (2 * i)
  exact (Int32.ofNat_mul 2 i).symm
theorem up_px {j : Nat} (hj : j < 10) {f : Int32} (hf : f = 0 ∨ f = 1) : ∃ b, b < 2 ∧ f = nI b ∧ (2 : Int32) * nI j + f = nI (2 * j + b) := by
  rcases hf with e | e
  · exact ⟨0, by omega, e, by rw [up_2i, e, ← nI_0, nI_add]⟩
  · exact ⟨1, by omega, e, by rw [up_2i, e]; exact nI_add (2 * j) 1⟩
theorem up_ytc {n c : Nat} {aP aF aS aT aG aU : Nat → Int32} {aR aB : Nat → Int32} {post : Int32 → Prop} {p q : Int32} (hn : n ≤ 10) (hc : c ≤ 20) (hp : up_pr aP aR aB) (h : post (up_tc n c aR aB aS aT aG aU p q)) : wpY_total post (nI n, nI (2 ^ n), nI c, aP, aF, aS, aT, aG, aU) p q := by
  show ∃ n5 : Nat, wY_total_5 post p q (nI n) (nI (2 ^ n)) (nI c) aP aF aS aT aG aU n5 0 0
  refine up_lp (up_Fv aR aB p) 0 n (fun m x i => wY_total_5 post p q (nI n) (nI (2 ^ n)) (nI c) aP aF aS aT aG aU m x i) (fun m => ?_) (fun m j x hj H => ?_)
  · refine br_t (nI_le (Nat.le_refl _) (by omega)) ?_
    refine up_lp (up_Ff aS aT aG aU p q) (up_it (up_Fv aR aB p) 0 n) c (fun m x i => wY_total_50 post p q (nI n) (nI (2 ^ n)) (nI c) aP aF aS aT aG aU m x i) (fun m => ?_) (fun m j x hj H => ?_)
    · exact br_t (nI_le (Nat.le_refl _) (by omega)) h
    · have hin : vp_in (nI j) 20 := vp_in_nI (by omega) (by omega)
      have ec : (nI j).toNatClampNeg = j := nI_clamp (by omega)
      refine br_f (nI_ge hj (by omega)) (br_f (nI_ge (b := 20) (by omega) (by decide)) ⟨hin, ?_⟩)
      rw [ec]
      refine And.intro hin ?_
      by_cases y : nI j = q
      · have e : up_Ff aS aT aG aU p q j x = x := by unfold up_Ff; rw [up_ifT y, Int32.add_zero]
        rw [e] at H
        exact br_t y (br_t y (nm_r (nI_1 j) H))
      · rcases up_fm01 p (aS j) with s0 | s1
        · have ns : ¬ up_fm p (aS j) = 1 := by rw [s0]; decide
          rcases up_fm01 p (aT j) with t0 | t1
          · have nt : ¬ up_fm p (aT j) = 1 := by rw [t0]; decide
            have e : up_Ff aS aT aG aU p q j x = x := by unfold up_Ff; rw [up_ifF y, up_ifT (s0.trans t0.symm), Int32.add_zero]
            rw [e] at H
            exact br_f y (br_t s0 (br_f nt (br_f y (br_f ns (nm_r (nI_1 j) H)))))
          · have z : ¬ up_fm p (aS j) = up_fm p (aT j) := by rw [s0, t1]; decide
            have e : x + aG j = up_Ff aS aT aG aU p q j x := by unfold up_Ff; rw [up_ifF y, up_ifF z, up_ifT s0]
            exact br_f y (br_t s0 (br_t t1 ⟨hin, nm_r e (br_f y (br_f ns (nm_r (nI_1 j) H)))⟩))
        · have ns : ¬ up_fm p (aS j) = 0 := by rw [s1]; decide
          rcases up_fm01 p (aT j) with t0 | t1
          · have z : ¬ up_fm p (aS j) = up_fm p (aT j) := by rw [s1, t0]; decide
            have e : x + aU (nI j).toNatClampNeg = up_Ff aS aT aG aU p q j x := by unfold up_Ff; rw [up_ifF y, up_ifF z, up_ifF ns, ec]
            exact br_f y (br_f ns (br_f y (br_t s1 (br_t t0 ⟨hin, nm_r e (nm_r (nI_1 j) H)⟩))))
          · have nt : ¬ up_fm p (aT j) = 0 := by rw [t1]; decide
            have e : up_Ff aS aT aG aU p q j x = x := by unfold up_Ff; rw [up_ifF y, up_ifT (s1.trans t1.symm), Int32.add_zero]
            rw [e] at H
            exact br_f y (br_f ns (br_f y (br_t s1 (br_f nt (nm_r (nI_1 j) H)))))
  · refine br_f (nI_ge hj (by omega)) (br_f (nI_ge (b := 10) (by omega) (by decide)) ?_)
    obtain ⟨b, hb, ef, ei⟩ := up_px (j := j) (by omega) (up_fm01 p (nI j))
    have ei' : (2 : Int32) * nI j + ((p >>> (nI j &&& 31)) &&& 1) = nI (2 * j + b) := ei
    have hin : vp_in ((2 : Int32) * nI j + ((p >>> (nI j &&& 31)) &&& 1)) 20 := by rw [ei']; exact vp_in_nI (by omega) (by omega)
    have e : x + aP ((2 : Int32) * nI j + ((p >>> (nI j &&& 31)) &&& 1)).toNatClampNeg = up_Fv aR aB p j x := by
      rw [ei', nI_clamp (by omega)]
      unfold up_Fv
      have hb2 : b = 0 ∨ b = 1 := by omega
      rcases hb2 with z | z
      · subst z
        have n1 : ¬ up_fm p (nI j) = 1 := by rw [ef]; decide
        rw [up_ifF n1, Nat.add_zero, (hp j (by omega)).1]
      · subst z
        have y1 : up_fm p (nI j) = 1 := ef
        rw [up_ifT y1, (hp j (by omega)).2]
    exact And.intro hin (nm_r e (nm_r (nI_1 j) H))
theorem up_yle {n c : Nat} {aP aF aS aT aG aU : Nat → Int32} {aR aB : Nat → Int32} {post : Int32 → Prop} {q : Int32} (hn : n ≤ 10) (hc : c ≤ 20) (hp : up_pr aP aR aB) (h : post (up_it (up_Fy (fun k => up_Al n aF (nI k)) (fun k => up_tc n c aR aB aS aT aG aU (nI k) q)) (-1) (2 ^ n))) : wpY_least post (nI n, nI (2 ^ n), nI c, aP, aF, aS, aT, aG, aU) q := by
  have hP := up_pow hn
  show ∃ n4 : Nat, wY_least_4 post q (nI n) (nI (2 ^ n)) (nI c) aP aF aS aT aG aU n4 (-1) 0
  refine up_lp (up_Fy (fun k => up_Al n aF (nI k)) (fun k => up_tc n c aR aB aS aT aG aU (nI k) q)) (-1) (2 ^ n) (fun m x i => wY_least_4 post q (nI n) (nI (2 ^ n)) (nI c) aP aF aS aT aG aU m x i) (fun m => ?_) (fun m j x hj H => ?_)
  · exact br_t (nI_le (Nat.le_refl _) (by omega)) h
  · refine br_f (nI_ge hj (by omega)) (up_yal hn (fun hA => ?_) (fun hA => ?_))
    · refine br_f (by decide) (up_ytc hn hc hp ?_)
      by_cases w : x < 0
      · have e : up_Fy (fun k => up_Al n aF (nI k)) (fun k => up_tc n c aR aB aS aT aG aU (nI k) q) j x = up_tc n c aR aB aS aT aG aU (nI j) q := by
          unfold up_Fy; rw [up_ifT hA, up_ifT w]
        rw [e] at H
        exact br_t w (nm_r (nI_1 j) H)
      · by_cases z : x ≤ up_tc n c aR aB aS aT aG aU (nI j) q
        · have e : up_Fy (fun k => up_Al n aF (nI k)) (fun k => up_tc n c aR aB aS aT aG aU (nI k) q) j x = x := by
            unfold up_Fy; rw [up_ifT hA, up_ifF w, up_ifT z]
          rw [e] at H
          exact br_f w (br_t z (nm_r (nI_1 j) H))
        · have e : up_Fy (fun k => up_Al n aF (nI k)) (fun k => up_tc n c aR aB aS aT aG aU (nI k) q) j x = up_tc n c aR aB aS aT aG aU (nI j) q := by
            unfold up_Fy; rw [up_ifT hA, up_ifF w, up_ifF z]
          rw [e] at H
          exact br_f w (br_f z (nm_r (nI_1 j) H))
    · have e : up_Fy (fun k => up_Al n aF (nI k)) (fun k => up_tc n c aR aB aS aT aG aU (nI k) q) j x = x := by
        unfold up_Fy; rw [up_ifF hA]
      rw [e] at H
      exact br_t rfl (nm_r (nI_1 j) H)
theorem up_yco {n c : Nat} {aP aF aS aT aG aU : Nat → Int32} {aR aB : Nat → Int32} {post : Int32 → Prop} {L : Int32} (hn : n ≤ 10) (hc : c ≤ 20) (hp : up_pr aP aR aB) (hL : up_it (up_Fy (fun k => up_Al n aF (nI k)) (fun k => up_tc n c aR aB aS aT aG aU (nI k) (-1))) (-1) (2 ^ n) = L) (h : post (up_it (up_Fo (fun k => up_Al n aF (nI k) ∧ up_tc n c aR aB aS aT aG aU (nI k) (-1) = L) (fun a b => a &&& b)) (nI (2 ^ n) - 1) (2 ^ n))) : wpY_common post (nI n, nI (2 ^ n), nI c, aP, aF, aS, aT, aG, aU) := by
  have hP := up_pow hn
  unfold wpY_common
  dsimp only
  refine up_yle hn hc hp ?_
  rw [hL]
  refine nm_e ?_
  refine up_lp (up_Fo (fun k => up_Al n aF (nI k) ∧ up_tc n c aR aB aS aT aG aU (nI k) (-1) = L) (fun a b => a &&& b)) (nI (2 ^ n) - 1) (2 ^ n) (fun m x i => wY_common_15 post L (nI n) (nI (2 ^ n)) (nI c) aP aF aS aT aG aU m x i) (fun m => ?_) (fun m j x hj H => ?_)
  · exact br_t (nI_le (Nat.le_refl _) (by omega)) h
  · refine br_f (nI_ge hj (by omega)) (up_yal hn (fun hA => ?_) (fun hA => ?_))
    · refine br_f (by decide) (up_ytc hn hc hp ?_)
      by_cases z : up_tc n c aR aB aS aT aG aU (nI j) (-1) = L
      · have e : x &&& nI j = up_Fo (fun k => up_Al n aF (nI k) ∧ up_tc n c aR aB aS aT aG aU (nI k) (-1) = L) (fun a b => a &&& b) j x := by
          unfold up_Fo; rw [up_ifT ⟨hA, z⟩]
        exact br_t z (nm_r e (nm_r (nI_1 j) H))
      · have e : up_Fo (fun k => up_Al n aF (nI k) ∧ up_tc n c aR aB aS aT aG aU (nI k) (-1) = L) (fun a b => a &&& b) j x = x := by
          unfold up_Fo; rw [up_ifF fun H => z H.2]
        rw [e] at H
        exact br_f z (nm_r (nI_1 j) H)
    · have e : up_Fo (fun k => up_Al n aF (nI k) ∧ up_tc n c aR aB aS aT aG aU (nI k) (-1) = L) (fun a b => a &&& b) j x = x := by
        unfold up_Fo; rw [up_ifF fun H => hA H.1]
      rw [e] at H
      exact br_t rfl (nm_r (nI_1 j) H)
theorem up_yso {n c : Nat} {aP aF aS aT aG aU : Nat → Int32} {aR aB : Nat → Int32} {post : Int32 → Prop} {L : Int32} (hn : n ≤ 10) (hc : c ≤ 20) (hp : up_pr aP aR aB) (hL : up_it (up_Fy (fun k => up_Al n aF (nI k)) (fun k => up_tc n c aR aB aS aT aG aU (nI k) (-1))) (-1) (2 ^ n) = L) (h : post (up_it (up_Fo (fun k => up_Al n aF (nI k) ∧ up_tc n c aR aB aS aT aG aU (nI k) (-1) = L) (fun a b => a ||| b)) 0 (2 ^ n))) : wpY_some post (nI n, nI (2 ^ n), nI c, aP, aF, aS, aT, aG, aU) := by
  have hP := up_pow hn
  unfold wpY_some
  dsimp only
  refine up_yle hn hc hp ?_
  rw [hL]
  refine up_lp (up_Fo (fun k => up_Al n aF (nI k) ∧ up_tc n c aR aB aS aT aG aU (nI k) (-1) = L) (fun a b => a ||| b)) 0 (2 ^ n) (fun m x i => wY_some_10 post L (nI n) (nI (2 ^ n)) (nI c) aP aF aS aT aG aU m x i) (fun m => ?_) (fun m j x hj H => ?_)
  · exact br_t (nI_le (Nat.le_refl _) (by omega)) h
  · refine br_f (nI_ge hj (by omega)) (up_yal hn (fun hA => ?_) (fun hA => ?_))
    · refine br_f (by decide) (up_ytc hn hc hp ?_)
      by_cases z : up_tc n c aR aB aS aT aG aU (nI j) (-1) = L
      · have e : x ||| nI j = up_Fo (fun k => up_Al n aF (nI k) ∧ up_tc n c aR aB aS aT aG aU (nI k) (-1) = L) (fun a b => a ||| b) j x := by
          unfold up_Fo; rw [up_ifT ⟨hA, z⟩]
        exact br_t z (nm_r e (nm_r (nI_1 j) H))
      · have e : up_Fo (fun k => up_Al n aF (nI k) ∧ up_tc n c aR aB aS aT aG aU (nI k) (-1) = L) (fun a b => a ||| b) j x = x := by
          unfold up_Fo; rw [up_ifF fun H => z H.2]
        rw [e] at H
        exact br_f z (nm_r (nI_1 j) H)
    · have e : up_Fo (fun k => up_Al n aF (nI k) ∧ up_tc n c aR aB aS aT aG aU (nI k) (-1) = L) (fun a b => a ||| b) j x = x := by
        unfold up_Fo; rw [up_ifF fun H => hA H.1]
      rw [e] at H
      exact br_t rfl (nm_r (nI_1 j) H)
