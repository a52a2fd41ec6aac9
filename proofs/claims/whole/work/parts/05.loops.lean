theorem up_xbw {n c : Nat} {aR aB aF aS aT aG aU : Nat → Int32} {post : Int32 → Prop} {v f : Int32} (hn : n ≤ 10) (hc : c ≤ 20) (h : post (up_it (up_Fx (fun k => up_Al n aF (nI k) ∧ up_fm (nI k) v = f) (fun k => up_tc n c aR aB aS aT aG aU (nI k) (-1))) 1201 (2 ^ n))) : ∃ n51 : Nat, wX_bestWith_51 post v f (nI n) (nI (2 ^ n)) (nI c) aR aB aF aS aT aG aU n51 1201 0 := by
  have hP := up_pow hn
  refine up_lp (up_Fx (fun k => up_Al n aF (nI k) ∧ up_fm (nI k) v = f) (fun k => up_tc n c aR aB aS aT aG aU (nI k) (-1))) 1201 (2 ^ n) (fun m x i => wX_bestWith_51 post v f (nI n) (nI (2 ^ n)) (nI c) aR aB aF aS aT aG aU m x i) (fun m => ?_) (fun m j x hj H => ?_)
  · exact br_t (nI_le (Nat.le_refl _) (by omega)) h
  · refine br_f (nI_ge hj (by omega)) ?_
    by_cases y : up_fm (nI j) v = f
    · refine br_t y (up_xal hn (fun hA => ?_) (fun hA => ?_))
      · refine br_f (by decide) (up_xtc hn hc ?_)
        by_cases z : x ≤ up_tc n c aR aB aS aT aG aU (nI j) (-1)
        · have e : up_Fx (fun k => up_Al n aF (nI k) ∧ up_fm (nI k) v = f) (fun k => up_tc n c aR aB aS aT aG aU (nI k) (-1)) j x = x := by
            unfold up_Fx; rw [up_ifT ⟨hA, y⟩, up_ifT z]
          rw [e] at H
          exact br_t z (nm_r (nI_1 j) H)
        · have e : up_Fx (fun k => up_Al n aF (nI k) ∧ up_fm (nI k) v = f) (fun k => up_tc n c aR aB aS aT aG aU (nI k) (-1)) j x = up_tc n c aR aB aS aT aG aU (nI j) (-1) := by
            unfold up_Fx; rw [up_ifT ⟨hA, y⟩, up_ifF z]
          rw [e] at H
          exact br_f z (nm_r (nI_1 j) H)
      · have e : up_Fx (fun k => up_Al n aF (nI k) ∧ up_fm (nI k) v = f) (fun k => up_tc n c aR aB aS aT aG aU (nI k) (-1)) j x = x := by
          unfold up_Fx; rw [up_ifF fun H => hA H.1]
        rw [e] at H
        exact br_t rfl (nm_r (nI_1 j) H)
    · have e : up_Fx (fun k => up_Al n aF (nI k) ∧ up_fm (nI k) v = f) (fun k => up_tc n c aR aB aS aT aG aU (nI k) (-1)) j x = x := by
        unfold up_Fx; rw [up_ifF fun H => y H.2]
      rw [e] at H
      exact br_f y (nm_r (nI_1 j) H)
theorem up_ybw {n c : Nat} {aP aF aS aT aG aU : Nat → Int32} {aR aB : Nat → Int32} {post : Int32 → Prop} {v f : Int32} (hn : n ≤ 10) (hc : c ≤ 20) (hp : up_pr aP aR aB) (h : post (up_it (up_Fy (fun k => up_Al n aF (nI k) ∧ up_fm (nI k) v = f) (fun k => up_tc n c aR aB aS aT aG aU (nI k) (-1))) (-3) (2 ^ n))) : ∃ n28 : Nat, wY_bestWith_28 post v f (nI n) (nI (2 ^ n)) (nI c) aP aF aS aT aG aU n28 (-3) 0 := by
  have hP := up_pow hn
  refine up_lp (up_Fy (fun k => up_Al n aF (nI k) ∧ up_fm (nI k) v = f) (fun k => up_tc n c aR aB aS aT aG aU (nI k) (-1))) (-3) (2 ^ n) (fun m x i => wY_bestWith_28 post v f (nI n) (nI (2 ^ n)) (nI c) aP aF aS aT aG aU m x i) (fun m => ?_) (fun m j x hj H => ?_)
  · exact br_t (nI_le (Nat.le_refl _) (by omega)) h
  · refine br_f (nI_ge hj (by omega)) (up_yal hn (fun hA => ?_) (fun hA => ?_))
    · refine br_f (by decide) ?_
      by_cases y : up_fm (nI j) v = f
      · refine br_t y (up_ytc hn hc hp ?_)
        by_cases w : x < 0
        · have e : up_Fy (fun k => up_Al n aF (nI k) ∧ up_fm (nI k) v = f) (fun k => up_tc n c aR aB aS aT aG aU (nI k) (-1)) j x = up_tc n c aR aB aS aT aG aU (nI j) (-1) := by
            unfold up_Fy; rw [up_ifT ⟨hA, y⟩, up_ifT w]
          rw [e] at H
          exact br_t w (nm_r (nI_1 j) H)
        · by_cases z : x ≤ up_tc n c aR aB aS aT aG aU (nI j) (-1)
          · have e : up_Fy (fun k => up_Al n aF (nI k) ∧ up_fm (nI k) v = f) (fun k => up_tc n c aR aB aS aT aG aU (nI k) (-1)) j x = x := by
              unfold up_Fy; rw [up_ifT ⟨hA, y⟩, up_ifF w, up_ifT z]
            rw [e] at H
            exact br_f w (br_t z (nm_r (nI_1 j) H))
          · have e : up_Fy (fun k => up_Al n aF (nI k) ∧ up_fm (nI k) v = f) (fun k => up_tc n c aR aB aS aT aG aU (nI k) (-1)) j x = up_tc n c aR aB aS aT aG aU (nI j) (-1) := by
              unfold up_Fy; rw [up_ifT ⟨hA, y⟩, up_ifF w, up_ifF z]
            rw [e] at H
            exact br_f w (br_f z (nm_r (nI_1 j) H))
      · have e : up_Fy (fun k => up_Al n aF (nI k) ∧ up_fm (nI k) v = f) (fun k => up_tc n c aR aB aS aT aG aU (nI k) (-1)) j x = x := by
          unfold up_Fy; rw [up_ifF fun H => y H.2]
        rw [e] at H
        exact br_f y (nm_r (nI_1 j) H)
    · have e : up_Fy (fun k => up_Al n aF (nI k) ∧ up_fm (nI k) v = f) (fun k => up_tc n c aR aB aS aT aG aU (nI k) (-1)) j x = x := by
        unfold up_Fy; rw [up_ifF fun H => hA H.1]
      rw [e] at H
      exact br_t rfl (nm_r (nI_1 j) H)
/-- an allowed plan in which two values are alike, or not, as asked -/
def up_Ct (n : Nat) (aF : Nat → Int32) (u v s : Int32) (k : Nat) : Prop := up_Al n aF (nI k) ∧ (up_fm (nI k) u = up_fm (nI k) v ↔ ¬ s = 0)
theorem up_xt68 {n c : Nat} {aR aB aF aS aT aG aU : Nat → Int32} {post : Int32 → Prop} {J : Int32 → Int32 → Prop} {u v s w x z : Int32} {j : Nat} (hn : n ≤ 10) (hc : c ≤ 20) (hz : z = w ↔ (up_fm (nI j) u = up_fm (nI j) v ↔ ¬ s = 0)) (H : J (up_Fx (up_Ct n aF u v s) (fun k => up_tc n c aR aB aS aT aG aU (nI k) (-1)) j x) (nI (j + 1))) : wX_bestTied_68 post J u v w x (nI j) z (nI n) (nI (2 ^ n)) (nI c) aR aB aF aS aT aG aU := by
  by_cases y : z = w
  · refine br_t y (up_xal hn (fun hA => ?_) (fun hA => ?_))
    · have hC : up_Ct n aF u v s j := ⟨hA, hz.mp y⟩
      refine br_f (by decide) (up_xtc hn hc ?_)
      by_cases t : x ≤ up_tc n c aR aB aS aT aG aU (nI j) (-1)
      · have e : up_Fx (up_Ct n aF u v s) (fun k => up_tc n c aR aB aS aT aG aU (nI k) (-1)) j x = x := by
          unfold up_Fx; rw [up_ifT hC, up_ifT t]
        rw [e] at H
        exact br_t t (nm_r (nI_1 j) H)
      · have e : up_Fx (up_Ct n aF u v s) (fun k => up_tc n c aR aB aS aT aG aU (nI k) (-1)) j x = up_tc n c aR aB aS aT aG aU (nI j) (-1) := by
          unfold up_Fx; rw [up_ifT hC, up_ifF t]
        rw [e] at H
        exact br_f t (nm_r (nI_1 j) H)
    · have hC : ¬ up_Ct n aF u v s j := fun h => hA h.1
      have e : up_Fx (up_Ct n aF u v s) (fun k => up_tc n c aR aB aS aT aG aU (nI k) (-1)) j x = x := by
        unfold up_Fx; rw [up_ifF hC]
      rw [e] at H
      exact br_t rfl (nm_r (nI_1 j) H)
  · have hC : ¬ up_Ct n aF u v s j := fun h => y (hz.mpr h.2)
    have e : up_Fx (up_Ct n aF u v s) (fun k => up_tc n c aR aB aS aT aG aU (nI k) (-1)) j x = x := by
      unfold up_Fx; rw [up_ifF hC]
    rw [e] at H
    exact br_f y (nm_r (nI_1 j) H)
theorem up_xbt {n c : Nat} {aR aB aF aS aT aG aU : Nat → Int32} {post : Int32 → Prop} {u v s w : Int32} (hn : n ≤ 10) (hc : c ≤ 20) (hw : (w = 0 ∧ s = 0) ∨ (w = 1 ∧ ¬ s = 0)) (h : (up_it (up_Fx (up_Ct n aF u v s) (fun k => up_tc n c aR aB aS aT aG aU (nI k) (-1))) 1201 (2 ^ n) = 1201 → post (-2)) ∧ (¬ up_it (up_Fx (up_Ct n aF u v s) (fun k => up_tc n c aR aB aS aT aG aU (nI k) (-1))) 1201 (2 ^ n) = 1201 → post (up_it (up_Fx (up_Ct n aF u v s) (fun k => up_tc n c aR aB aS aT aG aU (nI k) (-1))) 1201 (2 ^ n)))) : ∃ n37 : Nat, wX_bestTied_37 post u v w (nI n) (nI (2 ^ n)) (nI c) aR aB aF aS aT aG aU n37 1201 0 := by
  have hP := up_pow hn
  refine up_lp (up_Fx (up_Ct n aF u v s) (fun k => up_tc n c aR aB aS aT aG aU (nI k) (-1))) 1201 (2 ^ n) (fun m x i => wX_bestTied_37 post u v w (nI n) (nI (2 ^ n)) (nI c) aR aB aF aS aT aG aU m x i) (fun m => ?_) (fun m j x hj H => ?_)
  · exact br_t (nI_le (Nat.le_refl _) (by omega)) h
  · refine br_f (nI_ge hj (by omega)) ?_
    by_cases y : up_fm (nI j) u = up_fm (nI j) v
    · refine br_t y (up_xt68 hn hc ?_ H)
      rcases hw with ⟨e1, e2⟩ | ⟨e1, e2⟩
      · rw [e1]; exact ⟨fun h => absurd h (by decide), fun h => absurd e2 (h.mp y)⟩
      · rw [e1]; exact ⟨fun _ => ⟨fun _ => e2, fun _ => y⟩, fun _ => rfl⟩
    · refine br_f y (up_xt68 hn hc ?_ H)
      rcases hw with ⟨e1, e2⟩ | ⟨e1, e2⟩
      · rw [e1]; exact ⟨fun _ => ⟨fun h => absurd h y, fun h => absurd e2 h⟩, fun _ => rfl⟩
      · rw [e1]; exact ⟨fun h => absurd h (by decide), fun h => absurd (h.mpr e2) y⟩
theorem up_yt78 {n c : Nat} {aP aF aS aT aG aU : Nat → Int32} {aR aB : Nat → Int32} {post : Int32 → Prop} {J : Int32 → Int32 → Prop} {u v s x z0 z1 : Int32} {j : Nat} (hn : n ≤ 10) (hc : c ≤ 20) (hp : up_pr aP aR aB) (hA : up_Al n aF (nI j)) (hz : z1 = z0 ↔ (up_fm (nI j) u = up_fm (nI j) v ↔ ¬ s = 0)) (H : J (up_Fy (up_Ct n aF u v s) (fun k => up_tc n c aR aB aS aT aG aU (nI k) (-1)) j x) (nI (j + 1))) : wY_bestTied_78 post J u v s x (nI j) z0 z1 (nI n) (nI (2 ^ n)) (nI c) aP aF aS aT aG aU := by
  by_cases y : z1 = z0
  · have hC : up_Ct n aF u v s j := ⟨hA, hz.mp y⟩
    refine br_t y (up_ytc hn hc hp ?_)
    by_cases w : x < 0
    · have e : up_Fy (up_Ct n aF u v s) (fun k => up_tc n c aR aB aS aT aG aU (nI k) (-1)) j x = up_tc n c aR aB aS aT aG aU (nI j) (-1) := by
        unfold up_Fy; rw [up_ifT hC, up_ifT w]
      rw [e] at H
      exact br_t w (nm_r (nI_1 j) H)
    · by_cases t : x ≤ up_tc n c aR aB aS aT aG aU (nI j) (-1)
      · have e : up_Fy (up_Ct n aF u v s) (fun k => up_tc n c aR aB aS aT aG aU (nI k) (-1)) j x = x := by
          unfold up_Fy; rw [up_ifT hC, up_ifF w, up_ifT t]
        rw [e] at H
        exact br_f w (br_t t (nm_r (nI_1 j) H))
      · have e : up_Fy (up_Ct n aF u v s) (fun k => up_tc n c aR aB aS aT aG aU (nI k) (-1)) j x = up_tc n c aR aB aS aT aG aU (nI j) (-1) := by
          unfold up_Fy; rw [up_ifT hC, up_ifF w, up_ifF t]
        rw [e] at H
        exact br_f w (br_f t (nm_r (nI_1 j) H))
  · have hC : ¬ up_Ct n aF u v s j := fun h => y (hz.mpr h.2)
    have e : up_Fy (up_Ct n aF u v s) (fun k => up_tc n c aR aB aS aT aG aU (nI k) (-1)) j x = x := by
      unfold up_Fy; rw [up_ifF hC]
    rw [e] at H
    exact br_f y (nm_r (nI_1 j) H)
theorem up_yt56 {n c : Nat} {aP aF aS aT aG aU : Nat → Int32} {aR aB : Nat → Int32} {post : Int32 → Prop} {J : Int32 → Int32 → Prop} {u v s x z : Int32} {j : Nat} (hn : n ≤ 10) (hc : c ≤ 20) (hp : up_pr aP aR aB) (hz : (z = 1 ∧ up_fm (nI j) u = up_fm (nI j) v) ∨ (z = 0 ∧ ¬ up_fm (nI j) u = up_fm (nI j) v)) (H : J (up_Fy (up_Ct n aF u v s) (fun k => up_tc n c aR aB aS aT aG aU (nI k) (-1)) j x) (nI (j + 1))) : wY_bestTied_56 post J u v s x (nI j) z (nI n) (nI (2 ^ n)) (nI c) aP aF aS aT aG aU := by
  unfold wY_bestTied_56
  refine up_yal hn (fun hA => ?_) (fun hA => ?_)
  · refine br_f (by decide) ?_
    by_cases t : s = 0
    · refine br_t t (up_yt78 hn hc hp hA ?_ H)
      rcases hz with ⟨e, y⟩ | ⟨e, y⟩
      · rw [e]; exact ⟨fun h => absurd h (by decide), fun h => absurd t (h.mp y)⟩
      · rw [e]; exact ⟨fun _ => ⟨fun h => absurd h y, fun h => absurd t h⟩, fun _ => rfl⟩
    · refine br_f t (up_yt78 hn hc hp hA ?_ H)
      rcases hz with ⟨e, y⟩ | ⟨e, y⟩
      · rw [e]; exact ⟨fun _ => ⟨fun _ => t, fun _ => y⟩, fun _ => rfl⟩
      · rw [e]; exact ⟨fun h => absurd h (by decide), fun h => absurd (h.mpr t) y⟩
  · have hC : ¬ up_Ct n aF u v s j := fun h => hA h.1
    have e : up_Fy (up_Ct n aF u v s) (fun k => up_tc n c aR aB aS aT aG aU (nI k) (-1)) j x = x := by
      unfold up_Fy; rw [up_ifF hC]
    rw [e] at H
    exact br_t rfl (nm_r (nI_1 j) H)
theorem up_ybt {n c : Nat} {aP aF aS aT aG aU : Nat → Int32} {aR aB : Nat → Int32} {post : Int32 → Prop} {u v s : Int32} (hn : n ≤ 10) (hc : c ≤ 20) (hp : up_pr aP aR aB) (h : post (up_it (up_Fy (up_Ct n aF u v s) (fun k => up_tc n c aR aB aS aT aG aU (nI k) (-1))) (-2) (2 ^ n))) : ∃ n25 : Nat, wY_bestTied_25 post u v s (nI n) (nI (2 ^ n)) (nI c) aP aF aS aT aG aU n25 (-2) 0 := by
  have hP := up_pow hn
  refine up_lp (up_Fy (up_Ct n aF u v s) (fun k => up_tc n c aR aB aS aT aG aU (nI k) (-1))) (-2) (2 ^ n) (fun m x i => wY_bestTied_25 post u v s (nI n) (nI (2 ^ n)) (nI c) aP aF aS aT aG aU m x i) (fun m => ?_) (fun m j x hj H => ?_)
  · exact br_t (nI_le (Nat.le_refl _) (by omega)) h
  · refine br_f (nI_ge hj (by omega)) ?_
    by_cases y : up_fm (nI j) u = up_fm (nI j) v
    · exact br_t y (up_yt56 hn hc hp (Or.inl ⟨rfl, y⟩) H)
    · exact br_f y (up_yt56 hn hc hp (Or.inr ⟨rfl, y⟩) H)
/-- how many values are alike in two plans -/
noncomputable def up_Fs (a b : Int32) (k : Nat) (x : Int32) : Int32 := up_if (up_fm a (nI k) = up_fm b (nI k)) (x + 1) x
theorem up_xsc {n c : Nat} {aR aB aF aS aT aG aU : Nat → Int32} {post : Int32 → Prop} {a b : Int32} (hn : n ≤ 10) (h : post (up_it (up_Fs a b) 0 n)) : ∃ n15 : Nat, wX_settledCount_15 post a b (nI n) (nI (2 ^ n)) (nI c) aR aB aF aS aT aG aU n15 0 0 := by
  refine up_lp (up_Fs a b) 0 n (fun m x i => wX_settledCount_15 post a b (nI n) (nI (2 ^ n)) (nI c) aR aB aF aS aT aG aU m x i) (fun m => ?_) (fun m j x hj H => ?_)
  · exact br_t (nI_le (Nat.le_refl _) (by omega)) h
  · refine br_f (nI_ge hj (by omega)) ?_
    by_cases y : up_fm a (nI j) = up_fm b (nI j)
    · have e : x + 1 = up_Fs a b j x := by unfold up_Fs; rw [up_ifT y]
      exact br_t y (nm_r e (nm_r (nI_1 j) H))
    · have e : up_Fs a b j x = x := by unfold up_Fs; rw [up_ifF y]
      rw [e] at H
      exact br_f y (nm_r (nI_1 j) H)
theorem up_ysc {n c : Nat} {aP aF aS aT aG aU : Nat → Int32} {post : Int32 → Prop} {a b : Int32} (hn : n ≤ 10) (h : post (up_it (up_Fs a b) 0 n)) : ∃ n15 : Nat, wY_settledCount_15 post a b (nI n) (nI (2 ^ n)) (nI c) aP aF aS aT aG aU n15 0 0 := by
  refine up_lp (up_Fs a b) 0 n (fun m x i => wY_settledCount_15 post a b (nI n) (nI (2 ^ n)) (nI c) aP aF aS aT aG aU m x i) (fun m => ?_) (fun m j x hj H => ?_)
  · exact br_t (nI_le (Nat.le_refl _) (by omega)) h
  · refine br_f (nI_ge hj (by omega)) ?_
    by_cases y : up_fm a (nI j) = up_fm b (nI j)
    · have e : x + 1 = up_Fs a b j x := by unfold up_Fs; rw [up_ifT y]
      exact br_t y (nm_r e (nm_r (nI_1 j) H))
    · have e : up_Fs a b j x = x := by unfold up_Fs; rw [up_ifF y]
      rw [e] at H
      exact br_f y (nm_r (nI_1 j) H)
