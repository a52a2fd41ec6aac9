/-- what holds of the numbers that both sides keep -/
def up_I (n c : Nat) (aR aB aF aG aU aP : Nat → Int32) : Prop := n ≤ 10 ∧ c ≤ 20 ∧ up_bd 60 10 aR ∧ up_bd 60 10 aB ∧ up_f3 aF ∧ up_bd 30 20 aG ∧ up_bd 30 20 aU ∧ up_pr aP aR aB
/-- both sides keep the same numbers, but that the one keeps the two prices of a value side by side -/
def i_Rel (_ : Nat) (u : SX) (v : SY) : Prop := ∃ (n c : Nat) (aR aB aF aS aT aG aU aP : Nat → Int32), u = (nI n, nI (2 ^ n), nI c, aR, aB, aF, aS, aT, aG, aU) ∧ v = (nI n, nI (2 ^ n), nI c, aP, aF, aS, aT, aG, aU) ∧ up_I n c aR aB aF aG aU aP
theorem i_up {k : Nat} {u : SX} {v : SY} (h : i_Rel k u v) : i_Rel (k + 5) u v := h
theorem up_R {k n c : Nat} {aR aB aF aS aT aG aU aP : Nat → Int32} (h : up_I n c aR aB aF aG aU aP) : i_Rel k (nI n, nI (2 ^ n), nI c, aR, aB, aF, aS, aT, aG, aU) (nI n, nI (2 ^ n), nI c, aP, aF, aS, aT, aG, aU) := ⟨n, c, aR, aB, aF, aS, aT, aG, aU, aP, rfl, rfl, h⟩
theorem up_ix (x : Int32) (n : Nat) (hn : n < 2 ^ 31) : (x < 0 ∨ nI n ≤ x) ∨ ∃ j : Nat, j < n ∧ x = nI j := by
  rcases pk_ix x hn with h | h | h
  · exact Or.inl (Or.inl h)
  · exact Or.inl (Or.inr h)
  · exact Or.inr h
theorem up_or {A B : Prop} {f : Int32} (hf : f = 0 ∨ f = 1) (h : A) : (f = 0 → A) ∧ (¬ f = 0 → ((f = 1 → A) ∧ (¬ f = 1 → B))) :=
  ⟨fun _ => h, fun z => ⟨fun _ => h, fun y => absurd hf (fun o => o.elim z y)⟩⟩
theorem up_bdU {B N : Nat} {a : Nat → Int32} (h : up_bd B N a) (k : Nat) {x : Int32} (hx : ∃ m, m ≤ B ∧ x = nI m) : up_bd B N (upd a k x) := fun i hi => by
  by_cases z : i = k
  · rw [z, pk_us]; exact hx
  · rw [pk_un z]; exact h i hi
theorem up_prB {aP aR aB : Nat → Int32} (h : up_pr aP aR aB) (j : Nat) (x : Int32) : up_pr (upd aP (2 * j + 1) x) aR (upd aB j x) := fun i hi => by
  refine ⟨?_, ?_⟩
  · rw [pk_un (by omega)]; exact (h i hi).1
  · by_cases z : i = j
    · rw [z, pk_us, pk_us]
    · rw [pk_un (by omega), pk_un z]; exact (h i hi).2
theorem up_prR {aP aR aB : Nat → Int32} (h : up_pr aP aR aB) (j : Nat) (x : Int32) : up_pr (upd aP (2 * j) x) (upd aR j x) aB := fun i hi => by
  refine ⟨?_, ?_⟩
  · by_cases z : i = j
    · rw [z, pk_us, pk_us]
    · rw [pk_un (by omega), pk_un z]; exact (h i hi).1
  · rw [pk_un (by omega)]; exact (h i hi).2
theorem up_sh : ∀ n, n < 11 → (1 : Int32) <<< (nI n &&& 31) = nI (2 ^ n) := by decide +kernel
theorem up_fill : ∀ (d j : Nat) (aF : Nat → Int32), j + d = 10 → (∀ i, i < j → aF i = 2) → ∃ aF' : Nat → Int32, (∀ i, i < 10 → aF' i = 2) ∧ (∀ (post : SX → Prop) (a b e : Int32) (aR aB aS aT aG aU : Nat → Int32), post (a, b, e, aR, aB, aF', aS, aT, aG, aU) → wX_init_102 post a b e (d + 1) (nI j) aR aB aF aS aT aG aU) ∧ (∀ (post : SY → Prop) (a b e : Int32) (aP aS aT aG aU : Nat → Int32), post (a, b, e, aP, aF', aS, aT, aG, aU) → wY_init_89 post a b e (d + 1) (nI j) aP aF aS aT aG aU) := by
  intro d
  induction d with
  | zero =>
    intro j aF hj h
    have e : j = 10 := by omega
    subst e
    exact ⟨aF, h, fun post a b e aR aB aS aT aG aU hp => br_t (nI_le (a := 10) (b := 10) (by omega) (by decide)) hp, fun post a b e aP aS aT aG aU hp => br_t (nI_le (a := 10) (b := 10) (by omega) (by decide)) hp⟩
  | succ d ih =>
    intro j aF hj h
    have hin : vp_in (nI j) 10 := vp_in_nI (by omega) (by omega)
    have ec : (nI j).toNatClampNeg = j := nI_clamp (by omega)
    have hl : ¬ (10 : Int32) ≤ nI j := nI_ge (b := 10) (by omega) (by decide)
    obtain ⟨aF', h', hX, hY⟩ := ih (j + 1) (upd aF j 2) (by omega) (fun i hi => by
      by_cases z : i = j
      · rw [z, pk_us]
      · rw [pk_un z]; exact h i (by omega))
    refine ⟨aF', h', fun post a b e aR aB aS aT aG aU hp => br_f hl ⟨hin, ?_⟩, fun post a b e aP aS aT aG aU hp => br_f hl ⟨hin, ?_⟩⟩
    · rw [ec]; exact nm_e (nm_r (nI_1 j) (hX post a b e aR aB aS aT aG aU hp))
    · rw [ec]; exact nm_e (nm_r (nI_1 j) (hY post a b e aP aS aT aG aU hp))
theorem up_b0 (B N : Nat) : up_bd B N (fun _ => 0) := fun _ _ => ⟨0, Nat.zero_le _, rfl⟩
theorem up_new (n : Nat) (hn : n ≤ 10) (k : Nat) : wX_init_87 (fun u => wY_init_74 (fun v => i_Rel k u v) (nI n) 0 0 0 (fun _ => 0) (fun _ => 0) (fun _ => 0) (fun _ => 0) (fun _ => 0) (fun _ => 0)) (nI n) 0 0 0 (fun _ => 0) (fun _ => 0) (fun _ => 0) (fun _ => 0) (fun _ => 0) (fun _ => 0) (fun _ => 0) := by
  obtain ⟨aF', h', hX, hY⟩ := up_fill 10 0 (fun _ => 0) rfl (fun i hi => absurd hi (by omega))
  unfold wX_init_87 wY_init_74
  refine nm_r (up_sh n (by omega)) ⟨_, hX _ _ _ _ _ _ _ _ _ _ ?_⟩
  refine nm_r (up_sh n (by omega)) ⟨_, hY _ _ _ _ _ _ _ _ _ ?_⟩
  exact ⟨n, 0, fun _ => 0, fun _ => 0, aF', fun _ => 0, fun _ => 0, fun _ => 0, fun _ => 0, fun _ => 0, rfl, rfl, hn, by omega, up_b0 _ _, up_b0 _ _, fun i hi => Or.inr (Or.inr (h' i hi)), up_b0 _ _, up_b0 _ _, fun _ _ => ⟨rfl, rfl⟩⟩
theorem i_vc0 (k0 : Int32) : wpX_init (fun u => wpY_init (fun v => i_Rel 1 u v) k0) k0 := by
  unfold wpX_init wpY_init
  by_cases h2 : (2 : Int32) ≤ k0
  · by_cases h10 : k0 ≤ 10
    · have h0 : ¬ k0 < 0 := Int32.not_lt.mpr (Int32.le_trans (by decide) h2)
      obtain ⟨j, hj, rfl⟩ := nI_of2 (M := 10) (n := 10) (by decide) h0 h10
      simp only [h2, h10, not_true_eq_false, false_implies, and_true, true_implies]
      exact up_new j hj 1
    · simp only [h2, h10, not_true_eq_false, not_false_eq_true, false_implies, and_true, true_and, true_implies]
      exact up_new 10 (by omega) 1
  · simp only [h2, not_false_eq_true, false_implies, true_and, true_implies]
    exact up_new 2 (by omega) 1
theorem i_vc_values {k : Nat} {u : SX} {v : SY} (I : i_Rel k u v) (hk : k + 5 ≤ 2561) : wpX_values (fun r => wpY_values (fun r' => r' = r ∧ i_Rel (k + 5) u v) v) u := by
  obtain ⟨n, c, aR, aB, aF, aS, aT, aG, aU, aP, rfl, rfl, hI⟩ := I
  exact And.intro rfl (up_R hI)
theorem i_vc_flows {k : Nat} {u : SX} {v : SY} (I : i_Rel k u v) (hk : k + 5 ≤ 2561) : wpX_flows (fun r => wpY_flows (fun r' => r' = r ∧ i_Rel (k + 5) u v) v) u := by
  obtain ⟨n, c, aR, aB, aF, aS, aT, aG, aU, aP, rfl, rfl, hI⟩ := I
  exact And.intro rfl (up_R hI)
theorem i_vc_cost {k : Nat} {u : SX} {v : SY} (I : i_Rel k u v) (hk : k + 5 ≤ 2561) (v1 : Int32) (v2 : Int32) (v3 : Int32) : wpX_cost (fun r u' => wpY_cost (fun r' v' => r' = r ∧ i_Rel (k + 5) u' v') v v1 v2 v3) u v1 v2 v3 := by
  obtain ⟨n, c, aR, aB, aF, aS, aT, aG, aU, aP, rfl, rfl, hI⟩ := I
  have J : i_Rel (k + 5) (nI n, nI (2 ^ n), nI c, aR, aB, aF, aS, aT, aG, aU) (nI n, nI (2 ^ n), nI c, aP, aF, aS, aT, aG, aU) := up_R hI
  obtain ⟨hn, hc, hR, hB, hF, hG, hU, hp⟩ := hI
  unfold wpX_cost
  dsimp only
  rcases up_ix v1 n (by omega) with hb | ⟨j, hj, rfl⟩
  · refine up_xv0 hb (br_t rfl ?_)
    unfold wpY_cost
    dsimp only
    exact up_yv0 hb (br_f (by decide) ⟨rfl, J⟩)
  · refine up_xv1 hj hn (br_f (by decide) ?_)
    by_cases hf : v2 = 0 ∨ v2 = 1
    · refine up_xf1 hf (br_f (by decide) ?_)
      by_cases h0 : v3 < 0
      · refine br_t h0 ?_
        unfold wpY_cost
        dsimp only
        exact up_yv1 hj hn (br_t rfl (up_or hf (br_t h0 ⟨rfl, J⟩)))
      · refine br_f h0 ?_
        by_cases h6 : v3 ≤ 60
        · have hm : ∃ m, m ≤ 60 ∧ v3 = nI m := nI_of2 (M := 60) (n := 60) (by decide) h0 h6
          have hin : vp_in (nI j) 10 := vp_in_nI (by omega) (by omega)
          have ec : (nI j).toNatClampNeg = j := nI_clamp (by omega)
          refine br_t h6 ?_
          rcases hf with e | e
          · subst e
            have ei : (2 : Int32) * nI j + 0 = nI (2 * j) := by rw [up_2i, Int32.add_zero]
            refine br_f (by decide) ⟨hin, br_f (by decide) ⟨hin, nm_e ?_⟩⟩
            rw [ec]
            unfold wpY_cost
            dsimp only
            refine up_yv1 hj hn (br_t rfl (up_or (Or.inl rfl) (br_f h0 (br_t h6 ?_))))
            rw [ei, nI_clamp (by omega)]
            refine ⟨vp_in_nI (by omega) (by omega), nm_e ⟨vp_in_nI (by omega) (by omega), nm_e ⟨(hp j (by omega)).1, up_R ?_⟩⟩⟩
            exact ⟨hn, hc, up_bdU hR j hm, hB, hF, hG, hU, up_prR hp j v3⟩
          · subst e
            have ei : (2 : Int32) * nI j + 1 = nI (2 * j + 1) := by rw [up_2i, nI_1]
            refine br_t rfl ⟨hin, br_t rfl ⟨hin, nm_e ?_⟩⟩
            rw [ec]
            unfold wpY_cost
            dsimp only
            refine up_yv1 hj hn (br_t rfl (up_or (Or.inr rfl) (br_f h0 (br_t h6 ?_))))
            rw [ei, nI_clamp (by omega)]
            refine ⟨vp_in_nI (by omega) (by omega), nm_e ⟨vp_in_nI (by omega) (by omega), nm_e ⟨(hp j (by omega)).2, up_R ?_⟩⟩⟩
            exact ⟨hn, hc, hR, up_bdU hB j hm, hF, hG, hU, up_prB hp j v3⟩
        · refine br_f h6 ?_
          unfold wpY_cost
          dsimp only
          exact up_yv1 hj hn (br_t rfl (up_or hf (br_f h0 (br_f h6 ⟨rfl, J⟩))))
    · refine up_xf0 hf (br_t rfl ?_)
      unfold wpY_cost
      dsimp only
      exact up_yv1 hj hn (br_t rfl (br_f (fun z => hf (Or.inl z)) (br_f (fun z => hf (Or.inr z)) ⟨rfl, J⟩)))
