section
theorem pk_us {f : Nat → Int32} {k : Nat} {x : Int32} : upd f k x k = x := if_pos rfl
theorem pk_un {f : Nat → Int32} {k j : Nat} {x : Int32} (h : j ≠ k) : upd f k x j = f j := if_neg h
theorem pk_sub {a b : Nat} (h : b ≤ a) : nI a - nI b = nI (a - b) := by
  obtain ⟨c, rfl⟩ : ∃ c, a = c + b := ⟨a - b, by omega⟩
  rw [← nI_add, Int32.add_sub_cancel, Nat.add_sub_cancel]
theorem pk_ix (x : Int32) {n : Nat} (hn : n < 2 ^ 31) : x < 0 ∨ nI n ≤ x ∨ ∃ j : Nat, j < n ∧ x = nI j := by
  by_cases h : x < 0
  · exact Or.inl h
  · obtain ⟨j, hj, rfl⟩ := nI_of h
    by_cases h2 : j < n
    · exact Or.inr (Or.inr ⟨j, h2, rfl⟩)
    · exact Or.inr (Or.inl (nI_le (by omega) hj))
theorem pk_in {x : Int32} (n N : Nat) (h : n < N) (hx : x = nI n := by rfl) (hN : N < 2 ^ 31 := by omega) : vp_in x N := by
  subst hx
  exact vp_in_nI h hN
theorem pk_cl {x : Int32} (n : Nat) (hx : x = nI n := by rfl) (h : n < 2 ^ 31 := by omega) : x.toNatClampNeg = n := by
  subst hx
  exact nI_clamp h
theorem pk_tn {n : Nat} (h : n < 2 ^ 32) : (nI n).toBitVec.toNat = n := Nat.mod_eq_of_lt h
theorem pk_and (x : Int32) {m : Int32} (k : Nat) (hm : m.toBitVec.toNat = 2 ^ k - 1) : x &&& m = nI (x.toBitVec.toNat % 2 ^ k) := by
  apply Int32.toBitVec_inj.mp
  apply BitVec.eq_of_toNat_eq
  rw [Int32.toBitVec_and, BitVec.toNat_and, hm, Nat.and_two_pow_sub_one_eq_mod]
  show _ = (BitVec.ofNat 32 _).toNat
  rw [BitVec.toNat_ofNat]
  exact (Nat.mod_eq_of_lt (Nat.lt_of_le_of_lt (Nat.mod_le _ _) x.toBitVec.isLt)).symm
theorem pk_andN {n : Nat} (h : n < 2 ^ 32) {m : Int32} (k : Nat) (hm : m.toBitVec.toNat = 2 ^ k - 1) : nI n &&& m = nI (n % 2 ^ k) := by
  rw [pk_and _ k hm, pk_tn h]
theorem pk_shr (a s : Int32) (k : Nat) (hs : (s.toBitVec.smod 32).toNat = k) : (a >>> s).toInt = a.toInt >>> k := by
  show (a.toBitVec.sshiftRight (s.toBitVec.smod 32).toNat).toInt = _
  rw [hs, BitVec.toInt_sshiftRight]
  rfl
theorem pk_shrN {n : Nat} (h : n < 2 ^ 31) (s : Int32) (k : Nat) (hs : (s.toBitVec.smod 32).toNat = k) : nI n >>> s = nI (n / 2 ^ k) := by
  apply Int32.toInt_inj.mp
  have h2 : n / 2 ^ k ≤ n := Nat.div_le_self _ _
  rw [pk_shr _ _ k hs, nI_toInt h, nI_toInt (by omega), Int.shiftRight_eq_div_pow]
  rfl
theorem s_l : ∀ n, n < 32 → ((nI n &&& 31).toBitVec.smod 32).toNat = n := by decide +kernel
end
section
/-- the form that a plan gives to a value -/
def up_fm (p v : Int32) : Int32 := (p >>> (v &&& 31)) &&& 1
theorem up_fm01 (p v : Int32) : up_fm p v = 0 ∨ up_fm p v = 1 := by
  unfold up_fm
  rw [pk_and _ (m := 1) 1 (by decide)]
  generalize (p >>> (v &&& 31)).toBitVec.toNat = z
  have h : z % 2 ^ 1 = 0 ∨ z % 2 ^ 1 = 1 := by omega
  rcases h with h | h
  · rw [h]; exact Or.inl rfl
  · rw [h]; exact Or.inr rfl
theorem up_fmN {j i : Nat} (hj : j < 2 ^ 31) (hi : i < 32) : up_fm (nI j) (nI i) = nI (j / 2 ^ i % 2) := by
  unfold up_fm
  rw [pk_shrN hj _ i (s_l i hi), pk_andN (Nat.lt_of_le_of_lt (Nat.div_le_self _ _) (by omega)) (m := 1) 1 (by decide)]
/-- an if over any proposition -/
noncomputable def up_if (c : Prop) (a b : Int32) : Int32 := @ite Int32 c (Classical.propDecidable c) a b
theorem up_ifT {c : Prop} {a b : Int32} (h : c) : up_if c a b = a := @if_pos c (Classical.propDecidable c) h Int32 a b
theorem up_ifF {c : Prop} {a b : Int32} (h : ¬ c) : up_if c a b = b := @if_neg c (Classical.propDecidable c) h Int32 a b
/-- a step done for 0, 1 .. in turn -/
def up_it (F : Nat → Int32 → Int32) (s : Int32) : Nat → Int32
  | 0 => s
  | k + 1 => F k (up_it F s k)
theorem up_lp (F : Nat → Int32 → Int32) (s : Int32) (P : Nat) (W : Nat → Int32 → Int32 → Prop) (hx : ∀ n, W (n + 1) (up_it F s P) (nI P)) (hs : ∀ n j x, j < P → W n (F j x) (nI (j + 1)) → W (n + 1) x (nI j)) : ∃ n, W n s 0 := by
  have h : ∀ d j, j + d = P → W (d + 1) (up_it F s j) (nI j) := by
    intro d
    induction d with
    | zero =>
      intro j hj
      have e : j = P := by omega
      subst e
      exact hx 0
    | succ d ih =>
      intro j hj
      exact hs _ _ _ (by omega) (ih (j + 1) (by omega))
  exact ⟨P + 1, h P 0 (by omega)⟩
theorem up_itc {F G : Nat → Int32 → Int32} {s : Int32} (P : Nat) (h : ∀ j x, j < P → F j x = G j x) : up_it F s P = up_it G s P := by
  induction P with
  | zero => rfl
  | succ k ih =>
    show F k (up_it F s k) = G k (up_it G s k)
    rw [ih (fun j x hj => h j x (by omega)), h k _ (by omega)]
theorem up_itb {F : Nat → Int32 → Int32} {s : Int32} {m0 B : Nat} (hs : s = nI m0) (P : Nat) (h : ∀ j x, j < P → ∃ a, a ≤ B ∧ F j x = x + nI a) : ∃ m, m ≤ m0 + B * P ∧ up_it F s P = nI m := by
  induction P with
  | zero => exact ⟨m0, by omega, hs⟩
  | succ k ih =>
    obtain ⟨m, hm, e⟩ := ih (fun j x hj => h j x (by omega))
    obtain ⟨a, ha, e2⟩ := h k (up_it F s k) (by omega)
    refine ⟨m + a, ?_, ?_⟩
    · rw [Nat.mul_succ]; omega
    · show F k (up_it F s k) = _
      rw [e2, e, nI_add]
/-- the plan keeps to what is fixed -/
def up_Al (n : Nat) (aF : Nat → Int32) (p : Int32) : Prop := ∀ i, i < n → aF i = 2 ∨ aF i = up_fm p (nI i)
noncomputable def up_Fv (aR aB : Nat → Int32) (p : Int32) (k : Nat) (x : Int32) : Int32 := x + up_if (up_fm p (nI k) = 1) (aB k) (aR k)
noncomputable def up_Ff (aS aT aG aU : Nat → Int32) (p q : Int32) (k : Nat) (x : Int32) : Int32 := x + up_if (nI k = q) 0 (up_if (up_fm p (aS k) = up_fm p (aT k)) 0 (up_if (up_fm p (aS k) = 0) (aG k) (aU k)))
/-- the cost of a plan, the flow q left out -/
noncomputable def up_tc (n c : Nat) (aR aB aS aT aG aU : Nat → Int32) (p q : Int32) : Int32 := up_it (up_Ff aS aT aG aU p q) (up_it (up_Fv aR aB p) 0 n) c
def up_bd (B N : Nat) (a : Nat → Int32) : Prop := ∀ i, i < N → ∃ m, m ≤ B ∧ a i = nI m
theorem up_tcb {n c : Nat} {aR aB aS aT aG aU : Nat → Int32} (hn : n ≤ 10) (hc : c ≤ 20) (hR : up_bd 60 10 aR) (hB : up_bd 60 10 aB) (hG : up_bd 30 20 aG) (hU : up_bd 30 20 aU) (p q : Int32) : ∃ m, m ≤ 1200 ∧ up_tc n c aR aB aS aT aG aU p q = nI m := by
  obtain ⟨m, hm, e⟩ := up_itb (F := up_Fv aR aB p) (s := 0) (m0 := 0) (B := 60) rfl n (fun j x hj => by
    by_cases z : up_fm p (nI j) = 1
    · obtain ⟨a, ha, e⟩ := hB j (by omega)
      exact ⟨a, ha, by unfold up_Fv; rw [up_ifT z, e]⟩
    · obtain ⟨a, ha, e⟩ := hR j (by omega)
      exact ⟨a, ha, by unfold up_Fv; rw [up_ifF z, e]⟩)
  obtain ⟨m2, hm2, e2⟩ := up_itb (F := up_Ff aS aT aG aU p q) (m0 := m) (B := 30) e c (fun j x hj => by
    by_cases y : nI j = q
    · exact ⟨0, by omega, by unfold up_Ff; rw [up_ifT y]; rfl⟩
    · by_cases z : up_fm p (aS j) = up_fm p (aT j)
      · exact ⟨0, by omega, by unfold up_Ff; rw [up_ifF y, up_ifT z]; rfl⟩
      · by_cases w : up_fm p (aS j) = 0
        · obtain ⟨a, ha, e⟩ := hG j (by omega)
          exact ⟨a, ha, by unfold up_Ff; rw [up_ifF y, up_ifF z, up_ifT w, e]⟩
        · obtain ⟨a, ha, e⟩ := hU j (by omega)
          exact ⟨a, ha, by unfold up_Ff; rw [up_ifF y, up_ifF z, up_ifF w, e]⟩)
  exact ⟨m2, by omega, e2⟩
/-- the least so far: as the one side holds it, and as the other does -/
noncomputable def up_Fx (C : Nat → Prop) (T : Nat → Int32) (k : Nat) (x : Int32) : Int32 := up_if (C k) (up_if (x ≤ T k) x (T k)) x
noncomputable def up_Fy (C : Nat → Prop) (T : Nat → Int32) (k : Nat) (x : Int32) : Int32 := up_if (C k) (up_if (x < 0) (T k) (up_if (x ≤ T k) x (T k))) x
theorem up_acc (C : Nat → Prop) (T : Nat → Int32) (N : Int32) (hN : N < 0) (hT : ∀ j, ∃ m, m ≤ 1200 ∧ T j = nI m) (P : Nat) : ((∀ j, j < P → ¬ C j) ∧ up_it (up_Fx C T) 1201 P = 1201 ∧ up_it (up_Fy C T) N P = N) ∨ ((∃ j, j < P ∧ C j) ∧ ∃ m, m ≤ 1200 ∧ up_it (up_Fx C T) 1201 P = nI m ∧ up_it (up_Fy C T) N P = nI m) := by
  induction P with
  | zero => exact Or.inl ⟨fun j hj => absurd hj (by omega), rfl, rfl⟩
  | succ k ih =>
    have ex : up_it (up_Fx C T) 1201 (k + 1) = up_Fx C T k (up_it (up_Fx C T) 1201 k) := rfl
    have ey : up_it (up_Fy C T) N (k + 1) = up_Fy C T k (up_it (up_Fy C T) N k) := rfl
    rw [ex, ey]
    clear ex ey
    generalize up_it (up_Fx C T) 1201 k = a at ih ⊢
    generalize up_it (up_Fy C T) N k = b at ih ⊢
    obtain ⟨t, ht, et⟩ := hT k
    by_cases hC : C k
    · right
      refine ⟨⟨k, by omega, hC⟩, ?_⟩
      unfold up_Fx up_Fy
      rw [up_ifT hC, up_ifT hC, et]
      rcases ih with ⟨_, e1, e2⟩ | ⟨_, m, hm, e1, e2⟩
      · rw [e1, e2, up_ifT hN]
        have h : ¬ (1201 : Int32) ≤ nI t := nI_ge (b := 1201) (by omega) (by decide)
        exact ⟨t, ht, up_ifF h, rfl⟩
      · rw [e1, e2, up_ifF (nI_pos (by omega))]
        by_cases h : nI m ≤ nI t
        · exact ⟨m, hm, up_ifT h, up_ifT h⟩
        · exact ⟨t, ht, up_ifF h, up_ifF h⟩
    · unfold up_Fx up_Fy
      rw [up_ifF hC, up_ifF hC]
      rcases ih with ⟨h, e1, e2⟩ | ⟨⟨j, hj, h⟩, e⟩
      · refine Or.inl ⟨fun j hj => ?_, e1, e2⟩
        by_cases z : j = k
        · rw [z]; exact hC
        · exact h j (by omega)
      · exact Or.inr ⟨⟨j, by omega, h⟩, e⟩
/-- what is common to, or in one of, the plans of a kind -/
noncomputable def up_Fo (C : Nat → Prop) (g : Int32 → Int32 → Int32) (k : Nat) (x : Int32) : Int32 := up_if (C k) (g x (nI k)) x
/-- a plan with any forms asked for -/
theorem up_bits (b : Nat → Bool) : ∀ n : Nat, ∃ j, j < 2 ^ n ∧ ∀ i, i < n → j.testBit i = b i := by
  intro n
  induction n with
  | zero => exact ⟨0, by decide, fun i hi => absurd hi (by omega)⟩
  | succ n ih =>
    obtain ⟨j, hj, h⟩ := ih
    have hp : 2 ^ (n + 1) = 2 ^ n + 2 ^ n := by rw [Nat.pow_succ]; omega
    by_cases hb : b n = true
    · refine ⟨2 ^ n + j, by omega, fun i hi => ?_⟩
      by_cases z : i = n
      · rw [z, Nat.testBit_two_pow_add_eq, Nat.testBit_lt_two_pow hj, hb]; rfl
      · rw [Nat.testBit_two_pow_add_gt (by omega), h i (by omega)]
    · refine ⟨j, by omega, fun i hi => ?_⟩
      by_cases z : i = n
      · rw [z, Nat.testBit_lt_two_pow hj]
        cases hq : b n
        · rfl
        · exact absurd hq hb
      · exact h i (by omega)
theorem up_fmb {j i : Nat} (hj : j < 1024) (hi : i < 10) : up_fm (nI j) (nI i) = if j.testBit i then 1 else 0 := by
  rw [up_fmN (by omega) (by omega), Nat.testBit_eq_decide_div_mod_eq]
  generalize j / 2 ^ i = z
  have h : z % 2 = 0 ∨ z % 2 = 1 := by omega
  rcases h with h | h
  · rw [h]; rfl
  · rw [h]; rfl
theorem up_pow {n : Nat} (hn : n ≤ 10) : 2 ^ n ≤ 1024 := Nat.pow_le_pow_right (by decide) hn
def up_f3 (aF : Nat → Int32) : Prop := ∀ i, i < 10 → aF i = 0 ∨ aF i = 1 ∨ aF i = 2
theorem up_exF {n : Nat} {aF : Nat → Int32} (hn : n ≤ 10) (hF : up_f3 aF) (b : Nat → Bool) (h : ∀ i, i < n → aF i = 2 ∨ aF i = if b i then 1 else 0) : ∃ j, j < 2 ^ n ∧ up_Al n aF (nI j) ∧ ∀ i, i < n → up_fm (nI j) (nI i) = if b i then 1 else 0 := by
  obtain ⟨j, hj, hb⟩ := up_bits b n
  have hp := up_pow hn
  have e : ∀ i, i < n → up_fm (nI j) (nI i) = if b i then 1 else 0 := fun i hi => by
    rw [up_fmb (by omega) (by omega), hb i hi]
  refine ⟨j, hj, fun i hi => ?_, e⟩
  rw [e i hi]
  exact h i hi
theorem up_ex {n : Nat} {aF : Nat → Int32} (hn : n ≤ 10) (hF : up_f3 aF) : ∃ j, j < 2 ^ n ∧ up_Al n aF (nI j) := by
  obtain ⟨j, hj, h, _⟩ := up_exF hn hF (fun i => decide (aF i = 1)) (fun i hi => by
    rcases hF i (by omega) with h | h | h
    · right; rw [h]; decide
    · right; rw [h]; decide
    · left; exact h)
  exact ⟨j, hj, h⟩
theorem up_exW {n : Nat} {aF : Nat → Int32} (hn : n ≤ 10) (hF : up_f3 aF) {v : Nat} (hv : v < n) {f : Int32} (hf : f = 0 ∨ f = 1) (h : aF v = 2 ∨ aF v = f) : ∃ j, j < 2 ^ n ∧ up_Al n aF (nI j) ∧ up_fm (nI j) (nI v) = f := by
  obtain ⟨j, hj, h, h2⟩ := up_exF hn hF (fun i => if i = v then decide (f = 1) else decide (aF i = 1)) (fun i hi => by
    by_cases z : i = v
    · rcases h with h | h
      · left; rw [z]; exact h
      · right
        rw [if_pos z, z, h]
        rcases hf with e | e
        · rw [e]; decide
        · rw [e]; decide
    · rw [if_neg z]
      rcases hF i (by omega) with h | h | h
      · right; rw [h]; decide
      · right; rw [h]; decide
      · left; exact h)
  refine ⟨j, hj, h, ?_⟩
  rw [h2 v hv, if_pos rfl]
  rcases hf with e | e
  · rw [e]; decide
  · rw [e]; decide
end
section
theorem up_xv0 {n c : Nat} {aR aB aF aS aT aG aU : Nat → Int32} {post : Int32 → Prop} {v : Int32} (h : v < 0 ∨ nI n ≤ v) (hp : post 0) : wpX_isValue post (nI n, nI (2 ^ n), nI c, aR, aB, aF, aS, aT, aG, aU) v := by
  by_cases z : v < 0
  · exact br_t z hp
  · exact br_f z (br_t (h.resolve_left z) hp)
theorem up_xv1 {n c : Nat} {aR aB aF aS aT aG aU : Nat → Int32} {post : Int32 → Prop} {j : Nat} (hj : j < n) (hn : n ≤ 10) (hp : post 1) : wpX_isValue post (nI n, nI (2 ^ n), nI c, aR, aB, aF, aS, aT, aG, aU) (nI j) :=
  br_f (nI_pos (by omega)) (br_f (nI_ge hj (by omega)) hp)
theorem up_xw0 {n c : Nat} {aR aB aF aS aT aG aU : Nat → Int32} {post : Int32 → Prop} {v : Int32} (h : v < 0 ∨ nI c ≤ v) (hp : post 0) : wpX_isFlow post (nI n, nI (2 ^ n), nI c, aR, aB, aF, aS, aT, aG, aU) v := by
  by_cases z : v < 0
  · exact br_t z hp
  · exact br_f z (br_t (h.resolve_left z) hp)
theorem up_xw1 {n c : Nat} {aR aB aF aS aT aG aU : Nat → Int32} {post : Int32 → Prop} {j : Nat} (hj : j < c) (hc : c ≤ 20) (hp : post 1) : wpX_isFlow post (nI n, nI (2 ^ n), nI c, aR, aB, aF, aS, aT, aG, aU) (nI j) :=
  br_f (nI_pos (by omega)) (br_f (nI_ge hj (by omega)) hp)
theorem up_xp0 {n c : Nat} {aR aB aF aS aT aG aU : Nat → Int32} {post : Int32 → Prop} {v : Int32} (h : v < 0 ∨ nI (2 ^ n) ≤ v) (hp : post 0) : wpX_isPlan post (nI n, nI (2 ^ n), nI c, aR, aB, aF, aS, aT, aG, aU) v := by
  by_cases z : v < 0
  · exact br_t z hp
  · exact br_f z (br_t (h.resolve_left z) hp)
theorem up_xp1 {n c : Nat} {aR aB aF aS aT aG aU : Nat → Int32} {post : Int32 → Prop} {j : Nat} (hj : j < 2 ^ n) (hn : n ≤ 10) (hp : post 1) : wpX_isPlan post (nI n, nI (2 ^ n), nI c, aR, aB, aF, aS, aT, aG, aU) (nI j) := by
  have h := up_pow hn
  exact br_f (nI_pos (by omega)) (br_f (nI_ge hj (by omega)) hp)
theorem up_xf1 {n c : Nat} {aR aB aF aS aT aG aU : Nat → Int32} {post : Int32 → Prop} {f : Int32} (h : f = 0 ∨ f = 1) (hp : post 1) : wpX_isForm post (nI n, nI (2 ^ n), nI c, aR, aB, aF, aS, aT, aG, aU) f := by
  by_cases z : f = 0
  · exact br_t z hp
  · exact br_f z (br_t (h.resolve_left z) hp)
theorem up_xf0 {n c : Nat} {aR aB aF aS aT aG aU : Nat → Int32} {post : Int32 → Prop} {f : Int32} (h : ¬ (f = 0 ∨ f = 1)) (hp : post 0) : wpX_isForm post (nI n, nI (2 ^ n), nI c, aR, aB, aF, aS, aT, aG, aU) f :=
  br_f (fun z => h (Or.inl z)) (br_f (fun z => h (Or.inr z)) hp)
theorem up_xc1 {n c : Nat} {aR aB aF aS aT aG aU : Nat → Int32} {post : Int32 → Prop} {f : Int32} (h0 : ¬ f < 0) (h : ¬ 30 < f) (hp : post 1) : wpX_isFlowCost post (nI n, nI (2 ^ n), nI c, aR, aB, aF, aS, aT, aG, aU) f :=
  br_f h0 (br_f h hp)
theorem up_xc0 {n c : Nat} {aR aB aF aS aT aG aU : Nat → Int32} {post : Int32 → Prop} {f : Int32} (h : f < 0 ∨ 30 < f) (hp : post 0) : wpX_isFlowCost post (nI n, nI (2 ^ n), nI c, aR, aB, aF, aS, aT, aG, aU) f := by
  by_cases z : f < 0
  · exact br_t z hp
  · exact br_f z (br_t (h.resolve_left z) hp)
theorem up_xal {n c : Nat} {aR aB aF aS aT aG aU : Nat → Int32} {post : Int32 → Prop} {p : Int32} (hn : n ≤ 10) (h1 : up_Al n aF p → post 1) (h0 : ¬ up_Al n aF p → post 0) : wpX_isAllowed post (nI n, nI (2 ^ n), nI c, aR, aB, aF, aS, aT, aG, aU) p := by
  have h : ∀ d j, j + d = n → (∀ i, i < j → aF i = 2 ∨ aF i = up_fm p (nI i)) → wX_isAllowed_2 post p (nI n) (nI (2 ^ n)) (nI c) aR aB aF aS aT aG aU (d + 1) (nI j) := by
    intro d
    induction d with
    | zero =>
      intro j hj hi
      have e : j = n := by omega
      subst e
      exact br_t (nI_le (Nat.le_refl _) (by omega)) (h1 hi)
    | succ d ih =>
      intro j hj hi
      have hin : vp_in (nI j) 10 := vp_in_nI (by omega) (by omega)
      have ec : (nI j).toNatClampNeg = j := nI_clamp (by omega)
      refine br_f (nI_ge (by omega) (by omega)) ⟨hin, ?_⟩
      rw [ec]
      by_cases z : aF j = 2
      · exact br_t z (nm_r (nI_1 j) (ih (j + 1) (by omega) (lt_s hi (Or.inl z))))
      · refine br_f z ⟨hin, ?_⟩
        by_cases y : aF j = up_fm p (nI j)
        · exact br_t y (nm_r (nI_1 j) (ih (j + 1) (by omega) (lt_s hi (Or.inr y))))
        · exact br_f y (h0 fun H => (H j (by omega)).elim z y)
  exact Exists.intro (n + 1) (h n 0 (by omega) (fun i hi => absurd hi (by omega)))
theorem up_xtc {n c : Nat} {aR aB aF aS aT aG aU : Nat → Int32} {post : Int32 → Prop} {p q : Int32} (hn : n ≤ 10) (hc : c ≤ 20) (h : post (up_tc n c aR aB aS aT aG aU p q)) : wpX_planCost post (nI n, nI (2 ^ n), nI c, aR, aB, aF, aS, aT, aG, aU) p q := by
  show ∃ n5 : Nat, wX_planCost_5 post p q (nI n) (nI (2 ^ n)) (nI c) aR aB aF aS aT aG aU n5 0 0
  refine up_lp (up_Fv aR aB p) 0 n (fun m x i => wX_planCost_5 post p q (nI n) (nI (2 ^ n)) (nI c) aR aB aF aS aT aG aU m x i) (fun m => ?_) (fun m j x hj H => ?_)
  · refine br_t (nI_le (Nat.le_refl _) (by omega)) ?_
    refine up_lp (up_Ff aS aT aG aU p q) (up_it (up_Fv aR aB p) 0 n) c (fun m x i => wX_planCost_43 post p q (nI n) (nI (2 ^ n)) (nI c) aR aB aF aS aT aG aU m x i) (fun m => ?_) (fun m j x hj H => ?_)
    · exact br_t (nI_le (Nat.le_refl _) (by omega)) h
    · have hin : vp_in (nI j) 20 := vp_in_nI (by omega) (by omega)
      have ec : (nI j).toNatClampNeg = j := nI_clamp (by omega)
      refine br_f (nI_ge hj (by omega)) ?_
      by_cases y : nI j = q
      · have e : up_Ff aS aT aG aU p q j x = x := by unfold up_Ff; rw [up_ifT y, Int32.add_zero]
        rw [e] at H
        exact br_t y (nm_r (nI_1 j) H)
      · refine br_f y ⟨hin, ?_⟩
        rw [ec]
        refine And.intro hin ?_
        by_cases z : up_fm p (aS j) = up_fm p (aT j)
        · have e : x + 0 = up_Ff aS aT aG aU p q j x := by unfold up_Ff; rw [up_ifF y, up_ifT z]
          exact br_t z (nm_r e (nm_r (nI_1 j) H))
        · by_cases w : up_fm p (aS j) = 0
          · have e : x + aG (nI j).toNatClampNeg = up_Ff aS aT aG aU p q j x := by unfold up_Ff; rw [up_ifF y, up_ifF z, up_ifT w, ec]
            exact br_f z (br_t w ⟨hin, nm_r e (nm_r (nI_1 j) H)⟩)
          · have e : x + aU (nI j).toNatClampNeg = up_Ff aS aT aG aU p q j x := by unfold up_Ff; rw [up_ifF y, up_ifF z, up_ifF w, ec]
            exact br_f z (br_f w ⟨hin, nm_r e (nm_r (nI_1 j) H)⟩)
  · have hin : vp_in (nI j) 10 := vp_in_nI (by omega) (by omega)
    have ec : (nI j).toNatClampNeg = j := nI_clamp (by omega)
    refine br_f (nI_ge hj (by omega)) ?_
    by_cases z : up_fm p (nI j) = 1
    · have e : x + aB (nI j).toNatClampNeg = up_Fv aR aB p j x := by unfold up_Fv; rw [up_ifT z, ec]
      exact br_t z ⟨hin, nm_r e (nm_r (nI_1 j) H)⟩
    · have e : x + aR (nI j).toNatClampNeg = up_Fv aR aB p j x := by unfold up_Fv; rw [up_ifF z, ec]
      exact br_f z ⟨hin, nm_r e (nm_r (nI_1 j) H)⟩
theorem up_xle {n c : Nat} {aR aB aF aS aT aG aU : Nat → Int32} {post : Int32 → Prop} {q : Int32} (hn : n ≤ 10) (hc : c ≤ 20) (h : post (up_it (up_Fx (fun k => up_Al n aF (nI k)) (fun k => up_tc n c aR aB aS aT aG aU (nI k) q)) 1201 (2 ^ n))) : wpX_leastCost post (nI n, nI (2 ^ n), nI c, aR, aB, aF, aS, aT, aG, aU) q := by
  have hP := up_pow hn
  show ∃ n6 : Nat, wX_leastCost_6 post q (nI n) (nI (2 ^ n)) (nI c) aR aB aF aS aT aG aU n6 1201 0
  refine up_lp (up_Fx (fun k => up_Al n aF (nI k)) (fun k => up_tc n c aR aB aS aT aG aU (nI k) q)) 1201 (2 ^ n) (fun m x i => wX_leastCost_6 post q (nI n) (nI (2 ^ n)) (nI c) aR aB aF aS aT aG aU m x i) (fun m => ?_) (fun m j x hj H => ?_)
  · exact br_t (nI_le (Nat.le_refl _) (by omega)) h
  · refine br_f (nI_ge hj (by omega)) (up_xal hn (fun hA => ?_) (fun hA => ?_))
    · refine br_f (by decide) (up_xtc hn hc ?_)
      by_cases z : x ≤ up_tc n c aR aB aS aT aG aU (nI j) q
      · have e : up_Fx (fun k => up_Al n aF (nI k)) (fun k => up_tc n c aR aB aS aT aG aU (nI k) q) j x = x := by
          unfold up_Fx; rw [up_ifT hA, up_ifT z]
        rw [e] at H
        exact br_t z (nm_r (nI_1 j) H)
      · have e : up_Fx (fun k => up_Al n aF (nI k)) (fun k => up_tc n c aR aB aS aT aG aU (nI k) q) j x = up_tc n c aR aB aS aT aG aU (nI j) q := by
          unfold up_Fx; rw [up_ifT hA, up_ifF z]
        rw [e] at H
        exact br_f z (nm_r (nI_1 j) H)
    · have e : up_Fx (fun k => up_Al n aF (nI k)) (fun k => up_tc n c aR aB aS aT aG aU (nI k) q) j x = x := by
        unfold up_Fx; rw [up_ifF hA]
      rw [e] at H
      exact br_t rfl (nm_r (nI_1 j) H)
theorem up_xat {n c : Nat} {aR aB aF aS aT aG aU : Nat → Int32} {post : Int32 → Prop} {p q : Int32} (hn : n ≤ 10) (hc : c ≤ 20) (h1 : (up_Al n aF p ∧ up_tc n c aR aB aS aT aG aU p (-1) = q) → post 1) (h0 : ¬ (up_Al n aF p ∧ up_tc n c aR aB aS aT aG aU p (-1) = q) → post 0) : wpX_isAllowedAt post (nI n, nI (2 ^ n), nI c, aR, aB, aF, aS, aT, aG, aU) p q := by
  unfold wpX_isAllowedAt
  dsimp only
  refine up_xal hn (fun hA => ?_) (fun hA => ?_)
  · refine br_f (by decide) (up_xtc hn hc ?_)
    by_cases z : up_tc n c aR aB aS aT aG aU p (-1) = q
    · exact br_t z (h1 ⟨hA, z⟩)
    · exact br_f z (h0 fun H => z H.2)
  · exact br_t rfl (h0 fun H => hA H.1)
theorem up_xco {n c : Nat} {aR aB aF aS aT aG aU : Nat → Int32} {post : Int32 → Prop} {L : Int32} (hn : n ≤ 10) (hc : c ≤ 20) (hL : up_it (up_Fx (fun k => up_Al n aF (nI k)) (fun k => up_tc n c aR aB aS aT aG aU (nI k) (-1))) 1201 (2 ^ n) = L) (h : post (up_it (up_Fo (fun k => up_Al n aF (nI k) ∧ up_tc n c aR aB aS aT aG aU (nI k) (-1) = L) (fun a b => a &&& b)) (nI (2 ^ n) - 1) (2 ^ n))) : wpX_fewestBoxed post (nI n, nI (2 ^ n), nI c, aR, aB, aF, aS, aT, aG, aU) := by
  have hP := up_pow hn
  unfold wpX_fewestBoxed
  dsimp only
  refine up_xle hn hc ?_
  rw [hL]
  refine nm_e ?_
  refine up_lp (up_Fo (fun k => up_Al n aF (nI k) ∧ up_tc n c aR aB aS aT aG aU (nI k) (-1) = L) (fun a b => a &&& b)) (nI (2 ^ n) - 1) (2 ^ n) (fun m x i => wX_fewestBoxed_15 post L (nI n) (nI (2 ^ n)) (nI c) aR aB aF aS aT aG aU m x i) (fun m => ?_) (fun m j x hj H => ?_)
  · exact br_t (nI_le (Nat.le_refl _) (by omega)) h
  · refine br_f (nI_ge hj (by omega)) (up_xat hn hc (fun hA => ?_) (fun hA => ?_))
    · have e : x &&& nI j = up_Fo (fun k => up_Al n aF (nI k) ∧ up_tc n c aR aB aS aT aG aU (nI k) (-1) = L) (fun a b => a &&& b) j x := by
        unfold up_Fo; rw [up_ifT hA]
      exact br_f (by decide) (nm_r e (nm_r (nI_1 j) H))
    · have e : up_Fo (fun k => up_Al n aF (nI k) ∧ up_tc n c aR aB aS aT aG aU (nI k) (-1) = L) (fun a b => a &&& b) j x = x := by
        unfold up_Fo; rw [up_ifF hA]
      rw [e] at H
      exact br_t rfl (nm_r (nI_1 j) H)
theorem up_xso {n c : Nat} {aR aB aF aS aT aG aU : Nat → Int32} {post : Int32 → Prop} {L : Int32} (hn : n ≤ 10) (hc : c ≤ 20) (hL : up_it (up_Fx (fun k => up_Al n aF (nI k)) (fun k => up_tc n c aR aB aS aT aG aU (nI k) (-1))) 1201 (2 ^ n) = L) (h : post (up_it (up_Fo (fun k => up_Al n aF (nI k) ∧ up_tc n c aR aB aS aT aG aU (nI k) (-1) = L) (fun a b => a ||| b)) 0 (2 ^ n))) : wpX_mostBoxed post (nI n, nI (2 ^ n), nI c, aR, aB, aF, aS, aT, aG, aU) := by
  have hP := up_pow hn
  unfold wpX_mostBoxed
  dsimp only
  refine up_xle hn hc ?_
  rw [hL]
  refine up_lp (up_Fo (fun k => up_Al n aF (nI k) ∧ up_tc n c aR aB aS aT aG aU (nI k) (-1) = L) (fun a b => a ||| b)) 0 (2 ^ n) (fun m x i => wX_mostBoxed_10 post L (nI n) (nI (2 ^ n)) (nI c) aR aB aF aS aT aG aU m x i) (fun m => ?_) (fun m j x hj H => ?_)
  · exact br_t (nI_le (Nat.le_refl _) (by omega)) h
  · refine br_f (nI_ge hj (by omega)) (up_xat hn hc (fun hA => ?_) (fun hA => ?_))
    · have e : x ||| nI j = up_Fo (fun k => up_Al n aF (nI k) ∧ up_tc n c aR aB aS aT aG aU (nI k) (-1) = L) (fun a b => a ||| b) j x := by
        unfold up_Fo; rw [up_ifT hA]
      exact br_f (by decide) (nm_r e (nm_r (nI_1 j) H))
    · have e : up_Fo (fun k => up_Al n aF (nI k) ∧ up_tc n c aR aB aS aT aG aU (nI k) (-1) = L) (fun a b => a ||| b) j x = x := by
        unfold up_Fo; rw [up_ifF hA]
      rw [e] at H
      exact br_t rfl (nm_r (nI_1 j) H)
end
section
theorem up_yv0 {n c : Nat} {aP aF aS aT aG aU : Nat → Int32} {post : Int32 → Prop} {v : Int32} (h : v < 0 ∨ nI n ≤ v) (hp : post 1) : wpY_bad post (nI n, nI (2 ^ n), nI c, aP, aF, aS, aT, aG, aU) v := by
  by_cases z : v < 0
  · exact br_t z hp
  · exact br_f z (br_t (h.resolve_left z) hp)
theorem up_yv1 {n c : Nat} {aP aF aS aT aG aU : Nat → Int32} {post : Int32 → Prop} {j : Nat} (hj : j < n) (hn : n ≤ 10) (hp : post 0) : wpY_bad post (nI n, nI (2 ^ n), nI c, aP, aF, aS, aT, aG, aU) (nI j) :=
  br_f (nI_pos (by omega)) (br_f (nI_ge hj (by omega)) (br_t (nI_lt (b := 10) (by omega) (by decide)) hp))
theorem up_yw0 {n c : Nat} {aP aF aS aT aG aU : Nat → Int32} {post : Int32 → Prop} {v : Int32} (h : v < 0 ∨ nI c ≤ v) (hp : post 1) : wpY_badFlow post (nI n, nI (2 ^ n), nI c, aP, aF, aS, aT, aG, aU) v := by
  by_cases z : v < 0
  · exact br_t z hp
  · exact br_f z (br_t (h.resolve_left z) hp)
theorem up_yw1 {n c : Nat} {aP aF aS aT aG aU : Nat → Int32} {post : Int32 → Prop} {j : Nat} (hj : j < c) (hc : c ≤ 20) (hp : post 0) : wpY_badFlow post (nI n, nI (2 ^ n), nI c, aP, aF, aS, aT, aG, aU) (nI j) :=
  br_f (nI_pos (by omega)) (br_f (nI_ge hj (by omega)) (br_t (nI_lt (b := 20) (by omega) (by decide)) hp))
theorem up_yal {n c : Nat} {aP aF aS aT aG aU : Nat → Int32} {post : Int32 → Prop} {p : Int32} (hn : n ≤ 10) (h1 : up_Al n aF p → post 1) (h0 : ¬ up_Al n aF p → post 0) : wpY_allowed post (nI n, nI (2 ^ n), nI c, aP, aF, aS, aT, aG, aU) p := by
  have h : ∀ d j, j + d = n → (∀ i, i < j → aF i = 2 ∨ aF i = up_fm p (nI i)) → wY_allowed_2 post p (nI n) (nI (2 ^ n)) (nI c) aP aF aS aT aG aU (d + 1) (nI j) := by
    intro d
    induction d with
    | zero =>
      intro j hj hi
      have e : j = n := by omega
      subst e
      exact br_t (nI_le (Nat.le_refl _) (by omega)) (h1 hi)
    | succ d ih =>
      intro j hj hi
      have hin : vp_in (nI j) 10 := vp_in_nI (by omega) (by omega)
      have ec : (nI j).toNatClampNeg = j := nI_clamp (by omega)
      refine br_f (nI_ge (by omega) (by omega)) (br_f (nI_ge (b := 10) (by omega) (by decide)) ⟨hin, ?_⟩)
      rw [ec]
      by_cases z : aF j = 2
      · exact br_t z (nm_r (nI_1 j) (ih (j + 1) (by omega) (lt_s hi (Or.inl z))))
      · refine br_f z ⟨hin, ?_⟩
        by_cases y : aF j = up_fm p (nI j)
        · exact br_t y (nm_r (nI_1 j) (ih (j + 1) (by omega) (lt_s hi (Or.inr y))))
        · exact br_f y (h0 fun H => (H j (by omega)).elim z y)
  exact Exists.intro (n + 1) (h n 0 (by omega) (fun i hi => absurd hi (by omega)))
/-- where the one side keeps both prices of a value, and the other each in a table of its own -/
def up_pr (aP aR aB : Nat → Int32) : Prop := ∀ i, i < 10 → aP (2 * i) = aR i ∧ aP (2 * i + 1) = aB i
theorem up_2i (i : Nat) : (2 : Int32) * nI i = nI (2 * i) := by
  show nI 2 * nI i = nI (2 * i)
  exact (Int32.ofNat_mul 2 i).symm
theorem up_px {j : Nat} (hj : j < 10) {f : Int32} (hf : f = 0 ∨ f = 1) : ∃ b, b < 2 ∧ f = nI b ∧ (2 : Int32) * nI j + f = nI (2 * j + b) := by
  rcases hf with e | e
  · exact ⟨0, by omega, e, by rw [up_2i, e, ← nI_0, nI_add]⟩
  · exact ⟨1, by omega, e, by rw [up_2i, e]; exact nI_add (2 * j) 1⟩
theorem up_ytc {n c : Nat} {aP aF aS aT aG aU : Nat → Int32} {aR aB : Nat → Int32} {post : Int32 → Prop} {p q : Int32} (hn : n ≤ 10) (hc : c ≤ 20) (hp : up_pr aP aR aB) (h : post (up_tc n c aR aB aS aT aG aU p q)) : wpY_total post (nI n, nI (2 ^ n), nI c, aP, aF, aS, aT, aG, aU) p q := by
  show ∃ n5 : Nat, wY_total_5 post p q (nI n) (nI (2 ^ n)) (nI c) aP aF aS aT aG aU n5 0 0
  refine up_lp (up_Fv aR aB p) 0 n (fun m x i => wY_total_5 post p q (nI n) (nI (2 ^ n)) (nI c) aP aF aS aT aG aU m x i) (fun m => ?_) (fun m j x hj H => ?_)
  · refine br_t (nI_le (Nat.le_refl _) (by omega)) ?_
    refine up_lp (up_Ff aS aT aG aU p q) (up_it (up_Fv aR aB p) 0 n) c (fun m x i => wY_total_50 post p q (nI n) (nI (2 ^ n)) (nI c) aP aF aS aT aG aU m x i) (fun m => ?_) (fun m j x hj H => ?_)
    · exact br_t (nI_le (Nat.le_refl _) (by omega)) h
    · have hin : vp_in (nI j) 20 := vp_in_nI (by omega) (by omega)
      have ec : (nI j).toNatClampNeg = j := nI_clamp (by omega)
      refine br_f (nI_ge hj (by omega)) (br_f (nI_ge (b := 20) (by omega) (by decide)) ⟨hin, ?_⟩)
      rw [ec]
      refine And.intro hin ?_
      by_cases y : nI j = q
      · have e : up_Ff aS aT aG aU p q j x = x := by unfold up_Ff; rw [up_ifT y, Int32.add_zero]
        rw [e] at H
        exact br_t y (br_t y (nm_r (nI_1 j) H))
      · rcases up_fm01 p (aS j) with s0 | s1
        · have ns : ¬ up_fm p (aS j) = 1 := by rw [s0]; decide
          rcases up_fm01 p (aT j) with t0 | t1
          · have nt : ¬ up_fm p (aT j) = 1 := by rw [t0]; decide
            have e : up_Ff aS aT aG aU p q j x = x := by unfold up_Ff; rw [up_ifF y, up_ifT (s0.trans t0.symm), Int32.add_zero]
            rw [e] at H
            exact br_f y (br_t s0 (br_f nt (br_f y (br_f ns (nm_r (nI_1 j) H)))))
          · have z : ¬ up_fm p (aS j) = up_fm p (aT j) := by rw [s0, t1]; decide
            have e : x + aG j = up_Ff aS aT aG aU p q j x := by unfold up_Ff; rw [up_ifF y, up_ifF z, up_ifT s0]
            exact br_f y (br_t s0 (br_t t1 ⟨hin, nm_r e (br_f y (br_f ns (nm_r (nI_1 j) H)))⟩))
        · have ns : ¬ up_fm p (aS j) = 0 := by rw [s1]; decide
          rcases up_fm01 p (aT j) with t0 | t1
          · have z : ¬ up_fm p (aS j) = up_fm p (aT j) := by rw [s1, t0]; decide
            have e : x + aU (nI j).toNatClampNeg = up_Ff aS aT aG aU p q j x := by unfold up_Ff; rw [up_ifF y, up_ifF z, up_ifF ns, ec]
            exact br_f y (br_f ns (br_f y (br_t s1 (br_t t0 ⟨hin, nm_r e (nm_r (nI_1 j) H)⟩))))
          · have nt : ¬ up_fm p (aT j) = 0 := by rw [t1]; decide
            have e : up_Ff aS aT aG aU p q j x = x := by unfold up_Ff; rw [up_ifF y, up_ifT (s1.trans t1.symm), Int32.add_zero]
            rw [e] at H
            exact br_f y (br_f ns (br_f y (br_t s1 (br_f nt (nm_r (nI_1 j) H)))))
  · refine br_f (nI_ge hj (by omega)) (br_f (nI_ge (b := 10) (by omega) (by decide)) ?_)
    obtain ⟨b, hb, ef, ei⟩ := up_px (j := j) (by omega) (up_fm01 p (nI j))
    have ei' : (2 : Int32) * nI j + ((p >>> (nI j &&& 31)) &&& 1) = nI (2 * j + b) := ei
    have hin : vp_in ((2 : Int32) * nI j + ((p >>> (nI j &&& 31)) &&& 1)) 20 := by rw [ei']; exact vp_in_nI (by omega) (by omega)
    have e : x + aP ((2 : Int32) * nI j + ((p >>> (nI j &&& 31)) &&& 1)).toNatClampNeg = up_Fv aR aB p j x := by
      rw [ei', nI_clamp (by omega)]
      unfold up_Fv
      have hb2 : b = 0 ∨ b = 1 := by omega
      rcases hb2 with z | z
      · subst z
        have n1 : ¬ up_fm p (nI j) = 1 := by rw [ef]; decide
        rw [up_ifF n1, Nat.add_zero, (hp j (by omega)).1]
      · subst z
        have y1 : up_fm p (nI j) = 1 := ef
        rw [up_ifT y1, (hp j (by omega)).2]
    exact And.intro hin (nm_r e (nm_r (nI_1 j) H))
theorem up_yle {n c : Nat} {aP aF aS aT aG aU : Nat → Int32} {aR aB : Nat → Int32} {post : Int32 → Prop} {q : Int32} (hn : n ≤ 10) (hc : c ≤ 20) (hp : up_pr aP aR aB) (h : post (up_it (up_Fy (fun k => up_Al n aF (nI k)) (fun k => up_tc n c aR aB aS aT aG aU (nI k) q)) (-1) (2 ^ n))) : wpY_least post (nI n, nI (2 ^ n), nI c, aP, aF, aS, aT, aG, aU) q := by
  have hP := up_pow hn
  show ∃ n4 : Nat, wY_least_4 post q (nI n) (nI (2 ^ n)) (nI c) aP aF aS aT aG aU n4 (-1) 0
  refine up_lp (up_Fy (fun k => up_Al n aF (nI k)) (fun k => up_tc n c aR aB aS aT aG aU (nI k) q)) (-1) (2 ^ n) (fun m x i => wY_least_4 post q (nI n) (nI (2 ^ n)) (nI c) aP aF aS aT aG aU m x i) (fun m => ?_) (fun m j x hj H => ?_)
  · exact br_t (nI_le (Nat.le_refl _) (by omega)) h
  · refine br_f (nI_ge hj (by omega)) (up_yal hn (fun hA => ?_) (fun hA => ?_))
    · refine br_f (by decide) (up_ytc hn hc hp ?_)
      by_cases w : x < 0
      · have e : up_Fy (fun k => up_Al n aF (nI k)) (fun k => up_tc n c aR aB aS aT aG aU (nI k) q) j x = up_tc n c aR aB aS aT aG aU (nI j) q := by
          unfold up_Fy; rw [up_ifT hA, up_ifT w]
        rw [e] at H
        exact br_t w (nm_r (nI_1 j) H)
      · by_cases z : x ≤ up_tc n c aR aB aS aT aG aU (nI j) q
        · have e : up_Fy (fun k => up_Al n aF (nI k)) (fun k => up_tc n c aR aB aS aT aG aU (nI k) q) j x = x := by
            unfold up_Fy; rw [up_ifT hA, up_ifF w, up_ifT z]
          rw [e] at H
          exact br_f w (br_t z (nm_r (nI_1 j) H))
        · have e : up_Fy (fun k => up_Al n aF (nI k)) (fun k => up_tc n c aR aB aS aT aG aU (nI k) q) j x = up_tc n c aR aB aS aT aG aU (nI j) q := by
            unfold up_Fy; rw [up_ifT hA, up_ifF w, up_ifF z]
          rw [e] at H
          exact br_f w (br_f z (nm_r (nI_1 j) H))
    · have e : up_Fy (fun k => up_Al n aF (nI k)) (fun k => up_tc n c aR aB aS aT aG aU (nI k) q) j x = x := by
        unfold up_Fy; rw [up_ifF hA]
      rw [e] at H
      exact br_t rfl (nm_r (nI_1 j) H)
theorem up_yco {n c : Nat} {aP aF aS aT aG aU : Nat → Int32} {aR aB : Nat → Int32} {post : Int32 → Prop} {L : Int32} (hn : n ≤ 10) (hc : c ≤ 20) (hp : up_pr aP aR aB) (hL : up_it (up_Fy (fun k => up_Al n aF (nI k)) (fun k => up_tc n c aR aB aS aT aG aU (nI k) (-1))) (-1) (2 ^ n) = L) (h : post (up_it (up_Fo (fun k => up_Al n aF (nI k) ∧ up_tc n c aR aB aS aT aG aU (nI k) (-1) = L) (fun a b => a &&& b)) (nI (2 ^ n) - 1) (2 ^ n))) : wpY_common post (nI n, nI (2 ^ n), nI c, aP, aF, aS, aT, aG, aU) := by
  have hP := up_pow hn
  unfold wpY_common
  dsimp only
  refine up_yle hn hc hp ?_
  rw [hL]
  refine nm_e ?_
  refine up_lp (up_Fo (fun k => up_Al n aF (nI k) ∧ up_tc n c aR aB aS aT aG aU (nI k) (-1) = L) (fun a b => a &&& b)) (nI (2 ^ n) - 1) (2 ^ n) (fun m x i => wY_common_15 post L (nI n) (nI (2 ^ n)) (nI c) aP aF aS aT aG aU m x i) (fun m => ?_) (fun m j x hj H => ?_)
  · exact br_t (nI_le (Nat.le_refl _) (by omega)) h
  · refine br_f (nI_ge hj (by omega)) (up_yal hn (fun hA => ?_) (fun hA => ?_))
    · refine br_f (by decide) (up_ytc hn hc hp ?_)
      by_cases z : up_tc n c aR aB aS aT aG aU (nI j) (-1) = L
      · have e : x &&& nI j = up_Fo (fun k => up_Al n aF (nI k) ∧ up_tc n c aR aB aS aT aG aU (nI k) (-1) = L) (fun a b => a &&& b) j x := by
          unfold up_Fo; rw [up_ifT ⟨hA, z⟩]
        exact br_t z (nm_r e (nm_r (nI_1 j) H))
      · have e : up_Fo (fun k => up_Al n aF (nI k) ∧ up_tc n c aR aB aS aT aG aU (nI k) (-1) = L) (fun a b => a &&& b) j x = x := by
          unfold up_Fo; rw [up_ifF fun H => z H.2]
        rw [e] at H
        exact br_f z (nm_r (nI_1 j) H)
    · have e : up_Fo (fun k => up_Al n aF (nI k) ∧ up_tc n c aR aB aS aT aG aU (nI k) (-1) = L) (fun a b => a &&& b) j x = x := by
        unfold up_Fo; rw [up_ifF fun H => hA H.1]
      rw [e] at H
      exact br_t rfl (nm_r (nI_1 j) H)
theorem up_yso {n c : Nat} {aP aF aS aT aG aU : Nat → Int32} {aR aB : Nat → Int32} {post : Int32 → Prop} {L : Int32} (hn : n ≤ 10) (hc : c ≤ 20) (hp : up_pr aP aR aB) (hL : up_it (up_Fy (fun k => up_Al n aF (nI k)) (fun k => up_tc n c aR aB aS aT aG aU (nI k) (-1))) (-1) (2 ^ n) = L) (h : post (up_it (up_Fo (fun k => up_Al n aF (nI k) ∧ up_tc n c aR aB aS aT aG aU (nI k) (-1) = L) (fun a b => a ||| b)) 0 (2 ^ n))) : wpY_some post (nI n, nI (2 ^ n), nI c, aP, aF, aS, aT, aG, aU) := by
  have hP := up_pow hn
  unfold wpY_some
  dsimp only
  refine up_yle hn hc hp ?_
  rw [hL]
  refine up_lp (up_Fo (fun k => up_Al n aF (nI k) ∧ up_tc n c aR aB aS aT aG aU (nI k) (-1) = L) (fun a b => a ||| b)) 0 (2 ^ n) (fun m x i => wY_some_10 post L (nI n) (nI (2 ^ n)) (nI c) aP aF aS aT aG aU m x i) (fun m => ?_) (fun m j x hj H => ?_)
  · exact br_t (nI_le (Nat.le_refl _) (by omega)) h
  · refine br_f (nI_ge hj (by omega)) (up_yal hn (fun hA => ?_) (fun hA => ?_))
    · refine br_f (by decide) (up_ytc hn hc hp ?_)
      by_cases z : up_tc n c aR aB aS aT aG aU (nI j) (-1) = L
      · have e : x ||| nI j = up_Fo (fun k => up_Al n aF (nI k) ∧ up_tc n c aR aB aS aT aG aU (nI k) (-1) = L) (fun a b => a ||| b) j x := by
          unfold up_Fo; rw [up_ifT ⟨hA, z⟩]
        exact br_t z (nm_r e (nm_r (nI_1 j) H))
      · have e : up_Fo (fun k => up_Al n aF (nI k) ∧ up_tc n c aR aB aS aT aG aU (nI k) (-1) = L) (fun a b => a ||| b) j x = x := by
          unfold up_Fo; rw [up_ifF fun H => z H.2]
        rw [e] at H
        exact br_f z (nm_r (nI_1 j) H)
    · have e : up_Fo (fun k => up_Al n aF (nI k) ∧ up_tc n c aR aB aS aT aG aU (nI k) (-1) = L) (fun a b => a ||| b) j x = x := by
        unfold up_Fo; rw [up_ifF fun H => hA H.1]
      rw [e] at H
      exact br_t rfl (nm_r (nI_1 j) H)
end
section
theorem up_xbw {n c : Nat} {aR aB aF aS aT aG aU : Nat → Int32} {post : Int32 → Prop} {v f : Int32} (hn : n ≤ 10) (hc : c ≤ 20) (h : post (up_it (up_Fx (fun k => up_Al n aF (nI k) ∧ up_fm (nI k) v = f) (fun k => up_tc n c aR aB aS aT aG aU (nI k) (-1))) 1201 (2 ^ n))) : ∃ n51 : Nat, wX_bestWith_51 post v f (nI n) (nI (2 ^ n)) (nI c) aR aB aF aS aT aG aU n51 1201 0 := by
  have hP := up_pow hn
  refine up_lp (up_Fx (fun k => up_Al n aF (nI k) ∧ up_fm (nI k) v = f) (fun k => up_tc n c aR aB aS aT aG aU (nI k) (-1))) 1201 (2 ^ n) (fun m x i => wX_bestWith_51 post v f (nI n) (nI (2 ^ n)) (nI c) aR aB aF aS aT aG aU m x i) (fun m => ?_) (fun m j x hj H => ?_)
  · exact br_t (nI_le (Nat.le_refl _) (by omega)) h
  · refine br_f (nI_ge hj (by omega)) ?_
    by_cases y : up_fm (nI j) v = f
    · refine br_t y (up_xal hn (fun hA => ?_) (fun hA => ?_))
      · refine br_f (by decide) (up_xtc hn hc ?_)
        by_cases z : x ≤ up_tc n c aR aB aS aT aG aU (nI j) (-1)
        · have e : up_Fx (fun k => up_Al n aF (nI k) ∧ up_fm (nI k) v = f) (fun k => up_tc n c aR aB aS aT aG aU (nI k) (-1)) j x = x := by
            unfold up_Fx; rw [up_ifT ⟨hA, y⟩, up_ifT z]
          rw [e] at H
          exact br_t z (nm_r (nI_1 j) H)
        · have e : up_Fx (fun k => up_Al n aF (nI k) ∧ up_fm (nI k) v = f) (fun k => up_tc n c aR aB aS aT aG aU (nI k) (-1)) j x = up_tc n c aR aB aS aT aG aU (nI j) (-1) := by
            unfold up_Fx; rw [up_ifT ⟨hA, y⟩, up_ifF z]
          rw [e] at H
          exact br_f z (nm_r (nI_1 j) H)
      · have e : up_Fx (fun k => up_Al n aF (nI k) ∧ up_fm (nI k) v = f) (fun k => up_tc n c aR aB aS aT aG aU (nI k) (-1)) j x = x := by
          unfold up_Fx; rw [up_ifF fun H => hA H.1]
        rw [e] at H
        exact br_t rfl (nm_r (nI_1 j) H)
    · have e : up_Fx (fun k => up_Al n aF (nI k) ∧ up_fm (nI k) v = f) (fun k => up_tc n c aR aB aS aT aG aU (nI k) (-1)) j x = x := by
        unfold up_Fx; rw [up_ifF fun H => y H.2]
      rw [e] at H
      exact br_f y (nm_r (nI_1 j) H)
theorem up_ybw {n c : Nat} {aP aF aS aT aG aU : Nat → Int32} {aR aB : Nat → Int32} {post : Int32 → Prop} {v f : Int32} (hn : n ≤ 10) (hc : c ≤ 20) (hp : up_pr aP aR aB) (h : post (up_it (up_Fy (fun k => up_Al n aF (nI k) ∧ up_fm (nI k) v = f) (fun k => up_tc n c aR aB aS aT aG aU (nI k) (-1))) (-3) (2 ^ n))) : ∃ n28 : Nat, wY_bestWith_28 post v f (nI n) (nI (2 ^ n)) (nI c) aP aF aS aT aG aU n28 (-3) 0 := by
  have hP := up_pow hn
  refine up_lp (up_Fy (fun k => up_Al n aF (nI k) ∧ up_fm (nI k) v = f) (fun k => up_tc n c aR aB aS aT aG aU (nI k) (-1))) (-3) (2 ^ n) (fun m x i => wY_bestWith_28 post v f (nI n) (nI (2 ^ n)) (nI c) aP aF aS aT aG aU m x i) (fun m => ?_) (fun m j x hj H => ?_)
  · exact br_t (nI_le (Nat.le_refl _) (by omega)) h
  · refine br_f (nI_ge hj (by omega)) (up_yal hn (fun hA => ?_) (fun hA => ?_))
    · refine br_f (by decide) ?_
      by_cases y : up_fm (nI j) v = f
      · refine br_t y (up_ytc hn hc hp ?_)
        by_cases w : x < 0
        · have e : up_Fy (fun k => up_Al n aF (nI k) ∧ up_fm (nI k) v = f) (fun k => up_tc n c aR aB aS aT aG aU (nI k) (-1)) j x = up_tc n c aR aB aS aT aG aU (nI j) (-1) := by
            unfold up_Fy; rw [up_ifT ⟨hA, y⟩, up_ifT w]
          rw [e] at H
          exact br_t w (nm_r (nI_1 j) H)
        · by_cases z : x ≤ up_tc n c aR aB aS aT aG aU (nI j) (-1)
          · have e : up_Fy (fun k => up_Al n aF (nI k) ∧ up_fm (nI k) v = f) (fun k => up_tc n c aR aB aS aT aG aU (nI k) (-1)) j x = x := by
              unfold up_Fy; rw [up_ifT ⟨hA, y⟩, up_ifF w, up_ifT z]
            rw [e] at H
            exact br_f w (br_t z (nm_r (nI_1 j) H))
          · have e : up_Fy (fun k => up_Al n aF (nI k) ∧ up_fm (nI k) v = f) (fun k => up_tc n c aR aB aS aT aG aU (nI k) (-1)) j x = up_tc n c aR aB aS aT aG aU (nI j) (-1) := by
              unfold up_Fy; rw [up_ifT ⟨hA, y⟩, up_ifF w, up_ifF z]
            rw [e] at H
            exact br_f w (br_f z (nm_r (nI_1 j) H))
      · have e : up_Fy (fun k => up_Al n aF (nI k) ∧ up_fm (nI k) v = f) (fun k => up_tc n c aR aB aS aT aG aU (nI k) (-1)) j x = x := by
          unfold up_Fy; rw [up_ifF fun H => y H.2]
        rw [e] at H
        exact br_f y (nm_r (nI_1 j) H)
    · have e : up_Fy (fun k => up_Al n aF (nI k) ∧ up_fm (nI k) v = f) (fun k => up_tc n c aR aB aS aT aG aU (nI k) (-1)) j x = x := by
        unfold up_Fy; rw [up_ifF fun H => hA H.1]
      rw [e] at H
      exact br_t rfl (nm_r (nI_1 j) H)
/-- an allowed plan in which two values are alike, or not, as asked -/
def up_Ct (n : Nat) (aF : Nat → Int32) (u v s : Int32) (k : Nat) : Prop := up_Al n aF (nI k) ∧ (up_fm (nI k) u = up_fm (nI k) v ↔ ¬ s = 0)
theorem up_xt68 {n c : Nat} {aR aB aF aS aT aG aU : Nat → Int32} {post : Int32 → Prop} {J : Int32 → Int32 → Prop} {u v s w x z : Int32} {j : Nat} (hn : n ≤ 10) (hc : c ≤ 20) (hz : z = w ↔ (up_fm (nI j) u = up_fm (nI j) v ↔ ¬ s = 0)) (H : J (up_Fx (up_Ct n aF u v s) (fun k => up_tc n c aR aB aS aT aG aU (nI k) (-1)) j x) (nI (j + 1))) : wX_bestTied_68 post J u v w x (nI j) z (nI n) (nI (2 ^ n)) (nI c) aR aB aF aS aT aG aU := by
  by_cases y : z = w
  · refine br_t y (up_xal hn (fun hA => ?_) (fun hA => ?_))
    · have hC : up_Ct n aF u v s j := ⟨hA, hz.mp y⟩
      refine br_f (by decide) (up_xtc hn hc ?_)
      by_cases t : x ≤ up_tc n c aR aB aS aT aG aU (nI j) (-1)
      · have e : up_Fx (up_Ct n aF u v s) (fun k => up_tc n c aR aB aS aT aG aU (nI k) (-1)) j x = x := by
          unfold up_Fx; rw [up_ifT hC, up_ifT t]
        rw [e] at H
        exact br_t t (nm_r (nI_1 j) H)
      · have e : up_Fx (up_Ct n aF u v s) (fun k => up_tc n c aR aB aS aT aG aU (nI k) (-1)) j x = up_tc n c aR aB aS aT aG aU (nI j) (-1) := by
          unfold up_Fx; rw [up_ifT hC, up_ifF t]
        rw [e] at H
        exact br_f t (nm_r (nI_1 j) H)
    · have hC : ¬ up_Ct n aF u v s j := fun h => hA h.1
      have e : up_Fx (up_Ct n aF u v s) (fun k => up_tc n c aR aB aS aT aG aU (nI k) (-1)) j x = x := by
        unfold up_Fx; rw [up_ifF hC]
      rw [e] at H
      exact br_t rfl (nm_r (nI_1 j) H)
  · have hC : ¬ up_Ct n aF u v s j := fun h => y (hz.mpr h.2)
    have e : up_Fx (up_Ct n aF u v s) (fun k => up_tc n c aR aB aS aT aG aU (nI k) (-1)) j x = x := by
      unfold up_Fx; rw [up_ifF hC]
    rw [e] at H
    exact br_f y (nm_r (nI_1 j) H)
theorem up_xbt {n c : Nat} {aR aB aF aS aT aG aU : Nat → Int32} {post : Int32 → Prop} {u v s w : Int32} (hn : n ≤ 10) (hc : c ≤ 20) (hw : (w = 0 ∧ s = 0) ∨ (w = 1 ∧ ¬ s = 0)) (h : (up_it (up_Fx (up_Ct n aF u v s) (fun k => up_tc n c aR aB aS aT aG aU (nI k) (-1))) 1201 (2 ^ n) = 1201 → post (-2)) ∧ (¬ up_it (up_Fx (up_Ct n aF u v s) (fun k => up_tc n c aR aB aS aT aG aU (nI k) (-1))) 1201 (2 ^ n) = 1201 → post (up_it (up_Fx (up_Ct n aF u v s) (fun k => up_tc n c aR aB aS aT aG aU (nI k) (-1))) 1201 (2 ^ n)))) : ∃ n37 : Nat, wX_bestTied_37 post u v w (nI n) (nI (2 ^ n)) (nI c) aR aB aF aS aT aG aU n37 1201 0 := by
  have hP := up_pow hn
  refine up_lp (up_Fx (up_Ct n aF u v s) (fun k => up_tc n c aR aB aS aT aG aU (nI k) (-1))) 1201 (2 ^ n) (fun m x i => wX_bestTied_37 post u v w (nI n) (nI (2 ^ n)) (nI c) aR aB aF aS aT aG aU m x i) (fun m => ?_) (fun m j x hj H => ?_)
  · exact br_t (nI_le (Nat.le_refl _) (by omega)) h
  · refine br_f (nI_ge hj (by omega)) ?_
    by_cases y : up_fm (nI j) u = up_fm (nI j) v
    · refine br_t y (up_xt68 hn hc ?_ H)
      rcases hw with ⟨e1, e2⟩ | ⟨e1, e2⟩
      · rw [e1]; exact ⟨fun h => absurd h (by decide), fun h => absurd e2 (h.mp y)⟩
      · rw [e1]; exact ⟨fun _ => ⟨fun _ => e2, fun _ => y⟩, fun _ => rfl⟩
    · refine br_f y (up_xt68 hn hc ?_ H)
      rcases hw with ⟨e1, e2⟩ | ⟨e1, e2⟩
      · rw [e1]; exact ⟨fun _ => ⟨fun h => absurd h y, fun h => absurd e2 h⟩, fun _ => rfl⟩
      · rw [e1]; exact ⟨fun h => absurd h (by decide), fun h => absurd (h.mpr e2) y⟩
theorem up_yt78 {n c : Nat} {aP aF aS aT aG aU : Nat → Int32} {aR aB : Nat → Int32} {post : Int32 → Prop} {J : Int32 → Int32 → Prop} {u v s x z0 z1 : Int32} {j : Nat} (hn : n ≤ 10) (hc : c ≤ 20) (hp : up_pr aP aR aB) (hA : up_Al n aF (nI j)) (hz : z1 = z0 ↔ (up_fm (nI j) u = up_fm (nI j) v ↔ ¬ s = 0)) (H : J (up_Fy (up_Ct n aF u v s) (fun k => up_tc n c aR aB aS aT aG aU (nI k) (-1)) j x) (nI (j + 1))) : wY_bestTied_78 post J u v s x (nI j) z0 z1 (nI n) (nI (2 ^ n)) (nI c) aP aF aS aT aG aU := by
  by_cases y : z1 = z0
  · have hC : up_Ct n aF u v s j := ⟨hA, hz.mp y⟩
    refine br_t y (up_ytc hn hc hp ?_)
    by_cases w : x < 0
    · have e : up_Fy (up_Ct n aF u v s) (fun k => up_tc n c aR aB aS aT aG aU (nI k) (-1)) j x = up_tc n c aR aB aS aT aG aU (nI j) (-1) := by
        unfold up_Fy; rw [up_ifT hC, up_ifT w]
      rw [e] at H
      exact br_t w (nm_r (nI_1 j) H)
    · by_cases t : x ≤ up_tc n c aR aB aS aT aG aU (nI j) (-1)
      · have e : up_Fy (up_Ct n aF u v s) (fun k => up_tc n c aR aB aS aT aG aU (nI k) (-1)) j x = x := by
          unfold up_Fy; rw [up_ifT hC, up_ifF w, up_ifT t]
        rw [e] at H
        exact br_f w (br_t t (nm_r (nI_1 j) H))
      · have e : up_Fy (up_Ct n aF u v s) (fun k => up_tc n c aR aB aS aT aG aU (nI k) (-1)) j x = up_tc n c aR aB aS aT aG aU (nI j) (-1) := by
          unfold up_Fy; rw [up_ifT hC, up_ifF w, up_ifF t]
        rw [e] at H
        exact br_f w (br_f t (nm_r (nI_1 j) H))
  · have hC : ¬ up_Ct n aF u v s j := fun h => y (hz.mpr h.2)
    have e : up_Fy (up_Ct n aF u v s) (fun k => up_tc n c aR aB aS aT aG aU (nI k) (-1)) j x = x := by
      unfold up_Fy; rw [up_ifF hC]
    rw [e] at H
    exact br_f y (nm_r (nI_1 j) H)
theorem up_yt56 {n c : Nat} {aP aF aS aT aG aU : Nat → Int32} {aR aB : Nat → Int32} {post : Int32 → Prop} {J : Int32 → Int32 → Prop} {u v s x z : Int32} {j : Nat} (hn : n ≤ 10) (hc : c ≤ 20) (hp : up_pr aP aR aB) (hz : (z = 1 ∧ up_fm (nI j) u = up_fm (nI j) v) ∨ (z = 0 ∧ ¬ up_fm (nI j) u = up_fm (nI j) v)) (H : J (up_Fy (up_Ct n aF u v s) (fun k => up_tc n c aR aB aS aT aG aU (nI k) (-1)) j x) (nI (j + 1))) : wY_bestTied_56 post J u v s x (nI j) z (nI n) (nI (2 ^ n)) (nI c) aP aF aS aT aG aU := by
  unfold wY_bestTied_56
  refine up_yal hn (fun hA => ?_) (fun hA => ?_)
  · refine br_f (by decide) ?_
    by_cases t : s = 0
    · refine br_t t (up_yt78 hn hc hp hA ?_ H)
      rcases hz with ⟨e, y⟩ | ⟨e, y⟩
      · rw [e]; exact ⟨fun h => absurd h (by decide), fun h => absurd t (h.mp y)⟩
      · rw [e]; exact ⟨fun _ => ⟨fun h => absurd h y, fun h => absurd t h⟩, fun _ => rfl⟩
    · refine br_f t (up_yt78 hn hc hp hA ?_ H)
      rcases hz with ⟨e, y⟩ | ⟨e, y⟩
      · rw [e]; exact ⟨fun _ => ⟨fun _ => t, fun _ => y⟩, fun _ => rfl⟩
      · rw [e]; exact ⟨fun h => absurd h (by decide), fun h => absurd (h.mpr t) y⟩
  · have hC : ¬ up_Ct n aF u v s j := fun h => hA h.1
    have e : up_Fy (up_Ct n aF u v s) (fun k => up_tc n c aR aB aS aT aG aU (nI k) (-1)) j x = x := by
      unfold up_Fy; rw [up_ifF hC]
    rw [e] at H
    exact br_t rfl (nm_r (nI_1 j) H)
theorem up_ybt {n c : Nat} {aP aF aS aT aG aU : Nat → Int32} {aR aB : Nat → Int32} {post : Int32 → Prop} {u v s : Int32} (hn : n ≤ 10) (hc : c ≤ 20) (hp : up_pr aP aR aB) (h : post (up_it (up_Fy (up_Ct n aF u v s) (fun k => up_tc n c aR aB aS aT aG aU (nI k) (-1))) (-2) (2 ^ n))) : ∃ n25 : Nat, wY_bestTied_25 post u v s (nI n) (nI (2 ^ n)) (nI c) aP aF aS aT aG aU n25 (-2) 0 := by
  have hP := up_pow hn
  refine up_lp (up_Fy (up_Ct n aF u v s) (fun k => up_tc n c aR aB aS aT aG aU (nI k) (-1))) (-2) (2 ^ n) (fun m x i => wY_bestTied_25 post u v s (nI n) (nI (2 ^ n)) (nI c) aP aF aS aT aG aU m x i) (fun m => ?_) (fun m j x hj H => ?_)
  · exact br_t (nI_le (Nat.le_refl _) (by omega)) h
  · refine br_f (nI_ge hj (by omega)) ?_
    by_cases y : up_fm (nI j) u = up_fm (nI j) v
    · exact br_t y (up_yt56 hn hc hp (Or.inl ⟨rfl, y⟩) H)
    · exact br_f y (up_yt56 hn hc hp (Or.inr ⟨rfl, y⟩) H)
/-- how many values are alike in two plans -/
noncomputable def up_Fs (a b : Int32) (k : Nat) (x : Int32) : Int32 := up_if (up_fm a (nI k) = up_fm b (nI k)) (x + 1) x
theorem up_xsc {n c : Nat} {aR aB aF aS aT aG aU : Nat → Int32} {post : Int32 → Prop} {a b : Int32} (hn : n ≤ 10) (h : post (up_it (up_Fs a b) 0 n)) : ∃ n15 : Nat, wX_settledCount_15 post a b (nI n) (nI (2 ^ n)) (nI c) aR aB aF aS aT aG aU n15 0 0 := by
  refine up_lp (up_Fs a b) 0 n (fun m x i => wX_settledCount_15 post a b (nI n) (nI (2 ^ n)) (nI c) aR aB aF aS aT aG aU m x i) (fun m => ?_) (fun m j x hj H => ?_)
  · exact br_t (nI_le (Nat.le_refl _) (by omega)) h
  · refine br_f (nI_ge hj (by omega)) ?_
    by_cases y : up_fm a (nI j) = up_fm b (nI j)
    · have e : x + 1 = up_Fs a b j x := by unfold up_Fs; rw [up_ifT y]
      exact br_t y (nm_r e (nm_r (nI_1 j) H))
    · have e : up_Fs a b j x = x := by unfold up_Fs; rw [up_ifF y]
      rw [e] at H
      exact br_f y (nm_r (nI_1 j) H)
theorem up_ysc {n c : Nat} {aP aF aS aT aG aU : Nat → Int32} {post : Int32 → Prop} {a b : Int32} (hn : n ≤ 10) (h : post (up_it (up_Fs a b) 0 n)) : ∃ n15 : Nat, wY_settledCount_15 post a b (nI n) (nI (2 ^ n)) (nI c) aP aF aS aT aG aU n15 0 0 := by
  refine up_lp (up_Fs a b) 0 n (fun m x i => wY_settledCount_15 post a b (nI n) (nI (2 ^ n)) (nI c) aP aF aS aT aG aU m x i) (fun m => ?_) (fun m j x hj H => ?_)
  · exact br_t (nI_le (Nat.le_refl _) (by omega)) h
  · refine br_f (nI_ge hj (by omega)) ?_
    by_cases y : up_fm a (nI j) = up_fm b (nI j)
    · have e : x + 1 = up_Fs a b j x := by unfold up_Fs; rw [up_ifT y]
      exact br_t y (nm_r e (nm_r (nI_1 j) H))
    · have e : up_Fs a b j x = x := by unfold up_Fs; rw [up_ifF y]
      rw [e] at H
      exact br_f y (nm_r (nI_1 j) H)
end
section
/-- what holds of the numbers that both sides keep -/
def up_I (n c : Nat) (aR aB aF aG aU aP : Nat → Int32) : Prop := n ≤ 10 ∧ c ≤ 20 ∧ up_bd 60 10 aR ∧ up_bd 60 10 aB ∧ up_f3 aF ∧ up_bd 30 20 aG ∧ up_bd 30 20 aU ∧ up_pr aP aR aB
/-- both sides keep the same numbers, but that the one keeps the two prices of a value side by side -/
def i_Rel (_ : Nat) (u : SX) (v : SY) : Prop := ∃ (n c : Nat) (aR aB aF aS aT aG aU aP : Nat → Int32), u = (nI n, nI (2 ^ n), nI c, aR, aB, aF, aS, aT, aG, aU) ∧ v = (nI n, nI (2 ^ n), nI c, aP, aF, aS, aT, aG, aU) ∧ up_I n c aR aB aF aG aU aP
theorem i_up {k : Nat} {u : SX} {v : SY} (h : i_Rel k u v) : i_Rel (k + 5) u v := h
theorem up_R {k n c : Nat} {aR aB aF aS aT aG aU aP : Nat → Int32} (h : up_I n c aR aB aF aG aU aP) : i_Rel k (nI n, nI (2 ^ n), nI c, aR, aB, aF, aS, aT, aG, aU) (nI n, nI (2 ^ n), nI c, aP, aF, aS, aT, aG, aU) := ⟨n, c, aR, aB, aF, aS, aT, aG, aU, aP, rfl, rfl, h⟩
theorem up_ix (x : Int32) (n : Nat) (hn : n < 2 ^ 31) : (x < 0 ∨ nI n ≤ x) ∨ ∃ j : Nat, j < n ∧ x = nI j := by
  rcases pk_ix x hn with h | h | h
  · exact Or.inl (Or.inl h)
  · exact Or.inl (Or.inr h)
  · exact Or.inr h
theorem up_or {A B : Prop} {f : Int32} (hf : f = 0 ∨ f = 1) (h : A) : (f = 0 → A) ∧ (¬ f = 0 → ((f = 1 → A) ∧ (¬ f = 1 → B))) :=
  ⟨fun _ => h, fun z => ⟨fun _ => h, fun y => absurd hf (fun o => o.elim z y)⟩⟩
theorem up_bdU {B N : Nat} {a : Nat → Int32} (h : up_bd B N a) (k : Nat) {x : Int32} (hx : ∃ m, m ≤ B ∧ x = nI m) : up_bd B N (upd a k x) := fun i hi => by
  by_cases z : i = k
  · rw [z, pk_us]; exact hx
  · rw [pk_un z]; exact h i hi
theorem up_prB {aP aR aB : Nat → Int32} (h : up_pr aP aR aB) (j : Nat) (x : Int32) : up_pr (upd aP (2 * j + 1) x) aR (upd aB j x) := fun i hi => by
  refine ⟨?_, ?_⟩
  · rw [pk_un (by omega)]; exact (h i hi).1
  · by_cases z : i = j
    · rw [z, pk_us, pk_us]
    · rw [pk_un (by omega), pk_un z]; exact (h i hi).2
theorem up_prR {aP aR aB : Nat → Int32} (h : up_pr aP aR aB) (j : Nat) (x : Int32) : up_pr (upd aP (2 * j) x) (upd aR j x) aB := fun i hi => by
  refine ⟨?_, ?_⟩
  · by_cases z : i = j
    · rw [z, pk_us, pk_us]
    · rw [pk_un (by omega), pk_un z]; exact (h i hi).1
  · rw [pk_un (by omega)]; exact (h i hi).2
theorem up_sh : ∀ n, n < 11 → (1 : Int32) <<< (nI n &&& 31) = nI (2 ^ n) := by decide +kernel
theorem up_fill : ∀ (d j : Nat) (aF : Nat → Int32), j + d = 10 → (∀ i, i < j → aF i = 2) → ∃ aF' : Nat → Int32, (∀ i, i < 10 → aF' i = 2) ∧ (∀ (post : SX → Prop) (a b e : Int32) (aR aB aS aT aG aU : Nat → Int32), post (a, b, e, aR, aB, aF', aS, aT, aG, aU) → wX_init_102 post a b e (d + 1) (nI j) aR aB aF aS aT aG aU) ∧ (∀ (post : SY → Prop) (a b e : Int32) (aP aS aT aG aU : Nat → Int32), post (a, b, e, aP, aF', aS, aT, aG, aU) → wY_init_89 post a b e (d + 1) (nI j) aP aF aS aT aG aU) := by
  intro d
  induction d with
  | zero =>
    intro j aF hj h
    have e : j = 10 := by omega
    subst e
    exact ⟨aF, h, fun post a b e aR aB aS aT aG aU hp => br_t (nI_le (a := 10) (b := 10) (by omega) (by decide)) hp, fun post a b e aP aS aT aG aU hp => br_t (nI_le (a := 10) (b := 10) (by omega) (by decide)) hp⟩
  | succ d ih =>
    intro j aF hj h
    have hin : vp_in (nI j) 10 := vp_in_nI (by omega) (by omega)
    have ec : (nI j).toNatClampNeg = j := nI_clamp (by omega)
    have hl : ¬ (10 : Int32) ≤ nI j := nI_ge (b := 10) (by omega) (by decide)
    obtain ⟨aF', h', hX, hY⟩ := ih (j + 1) (upd aF j 2) (by omega) (fun i hi => by
      by_cases z : i = j
      · rw [z, pk_us]
      · rw [pk_un z]; exact h i (by omega))
    refine ⟨aF', h', fun post a b e aR aB aS aT aG aU hp => br_f hl ⟨hin, ?_⟩, fun post a b e aP aS aT aG aU hp => br_f hl ⟨hin, ?_⟩⟩
    · rw [ec]; exact nm_e (nm_r (nI_1 j) (hX post a b e aR aB aS aT aG aU hp))
    · rw [ec]; exact nm_e (nm_r (nI_1 j) (hY post a b e aP aS aT aG aU hp))
theorem up_b0 (B N : Nat) : up_bd B N (fun _ => 0) := fun _ _ => ⟨0, Nat.zero_le _, rfl⟩
theorem up_new (n : Nat) (hn : n ≤ 10) (k : Nat) : wX_init_87 (fun u => wY_init_74 (fun v => i_Rel k u v) (nI n) 0 0 0 (fun _ => 0) (fun _ => 0) (fun _ => 0) (fun _ => 0) (fun _ => 0) (fun _ => 0)) (nI n) 0 0 0 (fun _ => 0) (fun _ => 0) (fun _ => 0) (fun _ => 0) (fun _ => 0) (fun _ => 0) (fun _ => 0) := by
  obtain ⟨aF', h', hX, hY⟩ := up_fill 10 0 (fun _ => 0) rfl (fun i hi => absurd hi (by omega))
  unfold wX_init_87 wY_init_74
  refine nm_r (up_sh n (by omega)) ⟨_, hX _ _ _ _ _ _ _ _ _ _ ?_⟩
  refine nm_r (up_sh n (by omega)) ⟨_, hY _ _ _ _ _ _ _ _ _ ?_⟩
  exact ⟨n, 0, fun _ => 0, fun _ => 0, aF', fun _ => 0, fun _ => 0, fun _ => 0, fun _ => 0, fun _ => 0, rfl, rfl, hn, by omega, up_b0 _ _, up_b0 _ _, fun i hi => Or.inr (Or.inr (h' i hi)), up_b0 _ _, up_b0 _ _, fun _ _ => ⟨rfl, rfl⟩⟩
theorem i_vc0 (k0 : Int32) : wpX_init (fun u => wpY_init (fun v => i_Rel 1 u v) k0) k0 := by
  unfold wpX_init wpY_init
  by_cases h2 : (2 : Int32) ≤ k0
  · by_cases h10 : k0 ≤ 10
    · have h0 : ¬ k0 < 0 := Int32.not_lt.mpr (Int32.le_trans (by decide) h2)
      obtain ⟨j, hj, rfl⟩ := nI_of2 (M := 10) (n := 10) (by decide) h0 h10
      simp only [h2, h10, not_true_eq_false, false_implies, and_true, true_implies]
      exact up_new j hj 1
    · simp only [h2, h10, not_true_eq_false, not_false_eq_true, false_implies, and_true, true_and, true_implies]
      exact up_new 10 (by omega) 1
  · simp only [h2, not_false_eq_true, false_implies, true_and, true_implies]
    exact up_new 2 (by omega) 1
theorem i_vc_values {k : Nat} {u : SX} {v : SY} (I : i_Rel k u v) (hk : k + 5 ≤ 2561) : wpX_values (fun r => wpY_values (fun r' => r' = r ∧ i_Rel (k + 5) u v) v) u := by
  obtain ⟨n, c, aR, aB, aF, aS, aT, aG, aU, aP, rfl, rfl, hI⟩ := I
  exact And.intro rfl (up_R hI)
theorem i_vc_flows {k : Nat} {u : SX} {v : SY} (I : i_Rel k u v) (hk : k + 5 ≤ 2561) : wpX_flows (fun r => wpY_flows (fun r' => r' = r ∧ i_Rel (k + 5) u v) v) u := by
  obtain ⟨n, c, aR, aB, aF, aS, aT, aG, aU, aP, rfl, rfl, hI⟩ := I
  exact And.intro rfl (up_R hI)
theorem i_vc_cost {k : Nat} {u : SX} {v : SY} (I : i_Rel k u v) (hk : k + 5 ≤ 2561) (v1 : Int32) (v2 : Int32) (v3 : Int32) : wpX_cost (fun r u' => wpY_cost (fun r' v' => r' = r ∧ i_Rel (k + 5) u' v') v v1 v2 v3) u v1 v2 v3 := by
  obtain ⟨n, c, aR, aB, aF, aS, aT, aG, aU, aP, rfl, rfl, hI⟩ := I
  have J : i_Rel (k + 5) (nI n, nI (2 ^ n), nI c, aR, aB, aF, aS, aT, aG, aU) (nI n, nI (2 ^ n), nI c, aP, aF, aS, aT, aG, aU) := up_R hI
  obtain ⟨hn, hc, hR, hB, hF, hG, hU, hp⟩ := hI
  unfold wpX_cost
  dsimp only
  rcases up_ix v1 n (by omega) with hb | ⟨j, hj, rfl⟩
  · refine up_xv0 hb (br_t rfl ?_)
    unfold wpY_cost
    dsimp only
    exact up_yv0 hb (br_f (by decide) ⟨rfl, J⟩)
  · refine up_xv1 hj hn (br_f (by decide) ?_)
    by_cases hf : v2 = 0 ∨ v2 = 1
    · refine up_xf1 hf (br_f (by decide) ?_)
      by_cases h0 : v3 < 0
      · refine br_t h0 ?_
        unfold wpY_cost
        dsimp only
        exact up_yv1 hj hn (br_t rfl (up_or hf (br_t h0 ⟨rfl, J⟩)))
      · refine br_f h0 ?_
        by_cases h6 : v3 ≤ 60
        · have hm : ∃ m, m ≤ 60 ∧ v3 = nI m := nI_of2 (M := 60) (n := 60) (by decide) h0 h6
          have hin : vp_in (nI j) 10 := vp_in_nI (by omega) (by omega)
          have ec : (nI j).toNatClampNeg = j := nI_clamp (by omega)
          refine br_t h6 ?_
          rcases hf with e | e
          · subst e
            have ei : (2 : Int32) * nI j + 0 = nI (2 * j) := by rw [up_2i, Int32.add_zero]
            refine br_f (by decide) ⟨hin, br_f (by decide) ⟨hin, nm_e ?_⟩⟩
            rw [ec]
            unfold wpY_cost
            dsimp only
            refine up_yv1 hj hn (br_t rfl (up_or (Or.inl rfl) (br_f h0 (br_t h6 ?_))))
            rw [ei, nI_clamp (by omega)]
            refine ⟨vp_in_nI (by omega) (by omega), nm_e ⟨vp_in_nI (by omega) (by omega), nm_e ⟨(hp j (by omega)).1, up_R ?_⟩⟩⟩
            exact ⟨hn, hc, up_bdU hR j hm, hB, hF, hG, hU, up_prR hp j v3⟩
          · subst e
            have ei : (2 : Int32) * nI j + 1 = nI (2 * j + 1) := by rw [up_2i, nI_1]
            refine br_t rfl ⟨hin, br_t rfl ⟨hin, nm_e ?_⟩⟩
            rw [ec]
            unfold wpY_cost
            dsimp only
            refine up_yv1 hj hn (br_t rfl (up_or (Or.inr rfl) (br_f h0 (br_t h6 ?_))))
            rw [ei, nI_clamp (by omega)]
            refine ⟨vp_in_nI (by omega) (by omega), nm_e ⟨vp_in_nI (by omega) (by omega), nm_e ⟨(hp j (by omega)).2, up_R ?_⟩⟩⟩
            exact ⟨hn, hc, hR, up_bdU hB j hm, hF, hG, hU, up_prB hp j v3⟩
        · refine br_f h6 ?_
          unfold wpY_cost
          dsimp only
          exact up_yv1 hj hn (br_t rfl (up_or hf (br_f h0 (br_f h6 ⟨rfl, J⟩))))
    · refine up_xf0 hf (br_t rfl ?_)
      unfold wpY_cost
      dsimp only
      exact up_yv1 hj hn (br_t rfl (br_f (fun z => hf (Or.inl z)) (br_f (fun z => hf (Or.inr z)) ⟨rfl, J⟩)))
end
section
theorem up_012 (x : Int32) : (¬ x < 0 ∧ x ≤ 2) ↔ (x = 0 ∨ x = 1 ∨ x = 2) := by
  constructor
  · rintro ⟨h0, h2⟩
    obtain ⟨j, hj, rfl⟩ := nI_of2 (M := 2) (n := 2) (by decide) h0 h2
    have h : j = 0 ∨ j = 1 ∨ j = 2 := by omega
    rcases h with h | h | h
    · rw [h]; exact Or.inl rfl
    · rw [h]; exact Or.inr (Or.inl rfl)
    · rw [h]; exact Or.inr (Or.inr rfl)
  · rintro (h | h | h)
    · rw [h]; decide
    · rw [h]; decide
    · rw [h]; decide
theorem i_vc_fix {k : Nat} {u : SX} {v : SY} (I : i_Rel k u v) (hk : k + 5 ≤ 2561) (v1 : Int32) (v2 : Int32) : wpX_fix (fun r u' => wpY_fix (fun r' v' => r' = r ∧ i_Rel (k + 5) u' v') v v1 v2) u v1 v2 := by
  obtain ⟨n, c, aR, aB, aF, aS, aT, aG, aU, aP, rfl, rfl, hI⟩ := I
  have J : i_Rel (k + 5) (nI n, nI (2 ^ n), nI c, aR, aB, aF, aS, aT, aG, aU) (nI n, nI (2 ^ n), nI c, aP, aF, aS, aT, aG, aU) := up_R hI
  obtain ⟨hn, hc, hR, hB, hF, hG, hU, hp⟩ := hI
  unfold wpX_fix
  dsimp only
  rcases up_ix v1 n (by omega) with hb | ⟨j, hj, rfl⟩
  · refine up_xv0 hb (br_t rfl ?_)
    unfold wpY_fix
    dsimp only
    exact up_yv0 hb (br_f (by decide) ⟨rfl, J⟩)
  · refine up_xv1 hj hn (br_f (by decide) ?_)
    have hin : vp_in (nI j) 10 := vp_in_nI (by omega) (by omega)
    have ec : (nI j).toNatClampNeg = j := nI_clamp (by omega)
    by_cases h3 : v2 = 0 ∨ v2 = 1 ∨ v2 = 2
    · have hy := (up_012 v2).mpr h3
      have key : wX_fix_26 (fun r u' => wpY_fix (fun r' v' => r' = r ∧ i_Rel (k + 5) u' v') (nI n, nI (2 ^ n), nI c, aP, aF, aS, aT, aG, aU) (nI j) v2) (nI j) v2 (nI n) (nI (2 ^ n)) (nI c) aR aB aF aS aT aG aU := by
        unfold wX_fix_26
        refine ⟨hin, nm_e ⟨hin, nm_e ?_⟩⟩
        rw [ec]
        unfold wpY_fix
        dsimp only
        refine up_yv1 hj hn (br_t rfl (br_f hy.1 (br_t hy.2 ?_)))
        rw [ec]
        refine ⟨hin, nm_e ⟨hin, nm_e ⟨rfl, up_R ⟨hn, hc, hR, hB, fun i hi => ?_, hG, hU, hp⟩⟩⟩⟩
        by_cases z : i = j
        · rw [z, pk_us]; exact h3
        · rw [pk_un z]; exact hF i hi
      by_cases hf : v2 = 0 ∨ v2 = 1
      · exact up_xf1 hf (br_f (by decide) key)
      · have e2 : v2 = 2 := by
          rcases h3 with h | h | h
          · exact absurd (Or.inl h) hf
          · exact absurd (Or.inr h) hf
          · exact h
        exact up_xf0 hf (br_t rfl (br_t e2 key))
    · refine up_xf0 (fun h => h3 (h.elim Or.inl (fun z => Or.inr (Or.inl z)))) (br_t rfl (br_f (fun z => h3 (Or.inr (Or.inr z))) ?_))
      unfold wpY_fix
      dsimp only
      refine up_yv1 hj hn (br_t rfl ?_)
      by_cases h0 : v2 < 0
      · exact br_t h0 ⟨rfl, J⟩
      · exact br_f h0 (br_f (fun z => h3 ((up_012 v2).mp ⟨h0, z⟩)) ⟨rfl, J⟩)
theorem i_vc_flow {k : Nat} {u : SX} {v : SY} (I : i_Rel k u v) (hk : k + 5 ≤ 2561) (v1 : Int32) (v2 : Int32) (v3 : Int32) (v4 : Int32) : wpX_flow (fun r u' => wpY_flow (fun r' v' => r' = r ∧ i_Rel (k + 5) u' v') v v1 v2 v3 v4) u v1 v2 v3 v4 := by
  obtain ⟨n, c, aR, aB, aF, aS, aT, aG, aU, aP, rfl, rfl, hI⟩ := I
  have J : i_Rel (k + 5) (nI n, nI (2 ^ n), nI c, aR, aB, aF, aS, aT, aG, aU) (nI n, nI (2 ^ n), nI c, aP, aF, aS, aT, aG, aU) := up_R hI
  obtain ⟨hn, hc, hR, hB, hF, hG, hU, hp⟩ := hI
  unfold wpX_flow
  dsimp only
  rcases up_ix v1 n (by omega) with hb | ⟨i, hi, rfl⟩
  · refine up_xv0 hb (br_t rfl ?_)
    unfold wpY_flow
    dsimp only
    exact up_yv0 hb (br_f (by decide) ⟨rfl, J⟩)
  · refine up_xv1 hi hn (br_f (by decide) ?_)
    rcases up_ix v2 n (by omega) with hb | ⟨j, hj, rfl⟩
    · refine up_xv0 hb (br_t rfl ?_)
      unfold wpY_flow
      dsimp only
      exact up_yv1 hi hn (br_t rfl (up_yv0 hb (br_f (by decide) ⟨rfl, J⟩)))
    · refine up_xv1 hj hn (br_f (by decide) ?_)
      by_cases hs : nI i = nI j
      · refine br_t hs ?_
        unfold wpY_flow
        dsimp only
        exact up_yv1 hi hn (br_t rfl (up_yv1 hj hn (br_t rfl (br_t hs ⟨rfl, J⟩))))
      · refine br_f hs ?_
        by_cases h30 : v3 < 0
        · refine up_xc0 (Or.inl h30) (br_t rfl ?_)
          unfold wpY_flow
          dsimp only
          exact up_yv1 hi hn (br_t rfl (up_yv1 hj hn (br_t rfl (br_f hs (br_t h30 ⟨rfl, J⟩)))))
        · by_cases h31 : 30 < v3
          · refine up_xc0 (Or.inr h31) (br_t rfl ?_)
            unfold wpY_flow
            dsimp only
            exact up_yv1 hi hn (br_t rfl (up_yv1 hj hn (br_t rfl (br_f hs (br_f h30 (br_t h31 ⟨rfl, J⟩))))))
          · refine up_xc1 h30 h31 (br_f (by decide) ?_)
            by_cases h40 : v4 < 0
            · refine up_xc0 (Or.inl h40) (br_t rfl ?_)
              unfold wpY_flow
              dsimp only
              exact up_yv1 hi hn (br_t rfl (up_yv1 hj hn (br_t rfl (br_f hs (br_f h30 (br_f h31 (br_t h40 ⟨rfl, J⟩)))))))
            · by_cases h41 : 30 < v4
              · refine up_xc0 (Or.inr h41) (br_t rfl ?_)
                unfold wpY_flow
                dsimp only
                exact up_yv1 hi hn (br_t rfl (up_yv1 hj hn (br_t rfl (br_f hs (br_f h30 (br_f h31 (br_f h40 (br_f (Int32.not_le.mpr h41) ⟨rfl, J⟩))))))))
              · have h4 : v4 ≤ 30 := Int32.not_lt.mp h41
                have m3 : ∃ m, m ≤ 30 ∧ v3 = nI m := nI_of2 (M := 30) (n := 30) (by decide) h30 (Int32.not_lt.mp h31)
                have m4 : ∃ m, m ≤ 30 ∧ v4 = nI m := nI_of2 (M := 30) (n := 30) (by decide) h40 h4
                refine up_xc1 h40 h41 (br_f (by decide) ?_)
                by_cases hlt : c < 20
                · have hl : nI c < 20 := nI_lt (b := 20) hlt (by decide)
                  have hin : vp_in (nI c) 20 := vp_in_nI hlt (by omega)
                  have ec : (nI c).toNatClampNeg = c := nI_clamp (by omega)
                  refine br_t hl ?_
                  rw [ec]
                  refine ⟨hin, nm_e ⟨hin, nm_e ⟨hin, nm_e ⟨hin, nm_e (nm_r (nI_1 c) ?_)⟩⟩⟩⟩
                  unfold wpY_flow
                  dsimp only
                  refine up_yv1 hi hn (br_t rfl (up_yv1 hj hn (br_t rfl (br_f hs (br_f h30 (br_f h31 (br_f h40 (br_t h4 (br_t hl ?_)))))))))
                  rw [ec]
                  refine ⟨hin, nm_e ⟨hin, nm_e ⟨hin, nm_e ⟨hin, nm_e (nm_r (nI_1 c) ⟨rfl, up_R ?_⟩)⟩⟩⟩⟩
                  exact ⟨hn, by omega, hR, hB, hF, up_bdU hG c m3, up_bdU hU c m4, hp⟩
                · have hl : ¬ nI c < 20 := nI_nlt (b := 20) (by omega) (by omega)
                  refine br_f hl ?_
                  unfold wpY_flow
                  dsimp only
                  exact up_yv1 hi hn (br_t rfl (up_yv1 hj hn (br_t rfl (br_f hs (br_f h30 (br_f h31 (br_f h40 (br_t h4 (br_f hl ⟨rfl, J⟩)))))))))
theorem up_shift {n c : Nat} {aR aB aF aP : Nat → Int32} (hc : c + 1 ≤ 20) : ∀ (d j : Nat) (aS aT aG aU : Nat → Int32), j + d = c → up_bd 30 20 aG → up_bd 30 20 aU → ∃ aS' aT' aG' aU' : Nat → Int32, up_bd 30 20 aG' ∧ up_bd 30 20 aU' ∧ (∀ post : Int32 → SX → Prop, post (nI c) (nI n, nI (2 ^ n), nI c, aR, aB, aF, aS', aT', aG', aU') → wX_cut_12 post (nI n) (nI (2 ^ n)) (nI (c + 1)) (d + 1) (nI j) aR aB aF aS aT aG aU) ∧ (∀ post : Int32 → SY → Prop, post (nI c) (nI n, nI (2 ^ n), nI c, aP, aF, aS', aT', aG', aU') → wY_cut_12 post (nI n) (nI (2 ^ n)) (nI (c + 1)) (d + 1) (nI j) aP aF aS aT aG aU) := by
  intro d
  have e1 : nI (c + 1) - 1 = nI c := nI_pred c
  induction d with
  | zero =>
    intro j aS aT aG aU hj hG hU
    have e : j = c := by omega
    subst e
    have hl : nI (j + 1) - 1 ≤ nI j := by rw [e1]; exact nI_le (Nat.le_refl _) (by omega)
    exact ⟨aS, aT, aG, aU, hG, hU, fun post hp => br_t hl (nm_r e1 hp), fun post hp => br_t hl (nm_r e1 hp)⟩
  | succ d ih =>
    intro j aS aT aG aU hj hG hU
    have hin : vp_in (nI j) 20 := vp_in_nI (by omega) (by omega)
    have hin1 : vp_in (nI j + 1) 20 := by rw [nI_1]; exact vp_in_nI (by omega) (by omega)
    have ec : (nI j).toNatClampNeg = j := nI_clamp (by omega)
    have ec1 : (nI j + 1).toNatClampNeg = j + 1 := by rw [nI_1]; exact nI_clamp (by omega)
    have hl : ¬ nI (c + 1) - 1 ≤ nI j := by rw [e1]; exact nI_ge (by omega) (by omega)
    have hl2 : ¬ (19 : Int32) ≤ nI j := nI_ge (b := 19) (by omega) (by decide)
    obtain ⟨aS', aT', aG', aU', hG', hU', hX, hY⟩ := ih (j + 1) (upd aS j (aS (j + 1))) (upd aT j (aT (j + 1))) (upd aG j (aG (j + 1))) (upd aU j (aU (j + 1))) (by omega) (up_bdU hG j (hG (j + 1) (by omega))) (up_bdU hU j (hU (j + 1) (by omega)))
    refine ⟨aS', aT', aG', aU', hG', hU', fun post hp => br_f hl ?_, fun post hp => br_f hl (br_f hl2 ?_)⟩
    · rw [ec, ec1]
      exact ⟨hin1, hin, nm_e ⟨hin1, hin, nm_e ⟨hin1, hin, nm_e ⟨hin1, hin, nm_e (nm_r (nI_1 j) (hX post hp))⟩⟩⟩⟩
    · rw [ec, ec1]
      exact ⟨hin1, hin, nm_e ⟨hin1, hin, nm_e ⟨hin1, hin, nm_e ⟨hin1, hin, nm_e (nm_r (nI_1 j) (hY post hp))⟩⟩⟩⟩
theorem i_vc_cut {k : Nat} {u : SX} {v : SY} (I : i_Rel k u v) (hk : k + 5 ≤ 2561) (v1 : Int32) : wpX_cut (fun r u' => wpY_cut (fun r' v' => r' = r ∧ i_Rel (k + 5) u' v') v v1) u v1 := by
  obtain ⟨n, c, aR, aB, aF, aS, aT, aG, aU, aP, rfl, rfl, hI⟩ := I
  have J : i_Rel (k + 5) (nI n, nI (2 ^ n), nI c, aR, aB, aF, aS, aT, aG, aU) (nI n, nI (2 ^ n), nI c, aP, aF, aS, aT, aG, aU) := up_R hI
  obtain ⟨hn, hc, hR, hB, hF, hG, hU, hp⟩ := hI
  unfold wpX_cut
  dsimp only
  rcases up_ix v1 c (by omega) with hb | ⟨j, hj, rfl⟩
  · refine up_xw0 hb (br_t rfl ?_)
    unfold wpY_cut
    dsimp only
    exact up_yw0 hb (br_f (by decide) ⟨rfl, J⟩)
  · obtain ⟨c', rfl⟩ : ∃ c', c = c' + 1 := ⟨c - 1, by omega⟩
    obtain ⟨aS', aT', aG', aU', hG', hU', hX, hY⟩ := up_shift (n := n) (c := c') (aR := aR) (aB := aB) (aF := aF) (aP := aP) hc (c' - j) j aS aT aG aU (by omega) hG hU
    refine up_xw1 hj hc (br_f (by decide) ⟨_, hX _ ?_⟩)
    unfold wpY_cut
    dsimp only
    exact up_yw1 hj hc (br_t rfl ⟨_, hY _ ⟨rfl, up_R ⟨hn, by omega, hR, hB, hF, hG', hU', hp⟩⟩⟩)
end
section
theorem up_tb {n c : Nat} {aR aB aF aG aU aP : Nat → Int32} (hI : up_I n c aR aB aF aG aU aP) (aS aT : Nat → Int32) (p q : Int32) : ∃ m, m ≤ 1200 ∧ up_tc n c aR aB aS aT aG aU p q = nI m := by
  obtain ⟨hn, hc, hR, hB, hF, hG, hU, hp⟩ := hI
  exact up_tcb hn hc hR hB hG hU p q
theorem up_L {n c : Nat} {aR aB aF aG aU aP : Nat → Int32} (hI : up_I n c aR aB aF aG aU aP) (aS aT : Nat → Int32) (q : Int32) : ∃ L : Int32, up_it (up_Fx (fun k => up_Al n aF (nI k)) (fun k => up_tc n c aR aB aS aT aG aU (nI k) q)) 1201 (2 ^ n) = L ∧ up_it (up_Fy (fun k => up_Al n aF (nI k)) (fun k => up_tc n c aR aB aS aT aG aU (nI k) q)) (-1) (2 ^ n) = L := by
  rcases up_acc (fun k => up_Al n aF (nI k)) (fun k => up_tc n c aR aB aS aT aG aU (nI k) q) (-1) (by decide) (fun j => up_tb hI aS aT (nI j) q) (2 ^ n) with ⟨h, _⟩ | ⟨_, m, _, e1, e2⟩
  · obtain ⟨hn, hc, hR, hB, hF, hG, hU, hp⟩ := hI
    obtain ⟨j, hj, hA⟩ := up_ex hn hF
    exact absurd hA (h j hj)
  · exact ⟨nI m, e1, e2⟩
theorem i_vc_costOf {k : Nat} {u : SX} {v : SY} (I : i_Rel k u v) (hk : k + 5 ≤ 2561) (v1 : Int32) : wpX_costOf (fun r => wpY_costOf (fun r' => r' = r ∧ i_Rel (k + 5) u v) v v1) u v1 := by
  obtain ⟨n, c, aR, aB, aF, aS, aT, aG, aU, aP, rfl, rfl, hI⟩ := I
  have J : i_Rel (k + 5) (nI n, nI (2 ^ n), nI c, aR, aB, aF, aS, aT, aG, aU) (nI n, nI (2 ^ n), nI c, aP, aF, aS, aT, aG, aU) := up_R hI
  obtain ⟨hn, hc, hR, hB, hF, hG, hU, hp⟩ := hI
  have hP := up_pow hn
  unfold wpX_costOf
  dsimp only
  rcases up_ix v1 (2 ^ n) (by omega) with hb | ⟨j, hj, rfl⟩
  · refine up_xp0 hb (br_t rfl ?_)
    unfold wpY_costOf
    dsimp only
    by_cases z : v1 < 0
    · exact br_t z ⟨rfl, J⟩
    · exact br_f z (br_f (Int32.not_lt.mpr (hb.resolve_left z)) ⟨rfl, J⟩)
  · refine up_xp1 hj hn (br_f (by decide) (up_xtc hn hc ?_))
    unfold wpY_costOf
    dsimp only
    exact br_f (nI_pos (by omega)) (br_t (nI_lt hj (by omega)) (up_ytc hn hc hp ⟨rfl, J⟩))
theorem i_vc_best {k : Nat} {u : SX} {v : SY} (I : i_Rel k u v) (hk : k + 5 ≤ 2561) : wpX_best (fun r => wpY_best (fun r' => r' = r ∧ i_Rel (k + 5) u v) v) u := by
  obtain ⟨n, c, aR, aB, aF, aS, aT, aG, aU, aP, rfl, rfl, hI⟩ := I
  have J : i_Rel (k + 5) (nI n, nI (2 ^ n), nI c, aR, aB, aF, aS, aT, aG, aU) (nI n, nI (2 ^ n), nI c, aP, aF, aS, aT, aG, aU) := up_R hI
  obtain ⟨L, e1, e2⟩ := up_L hI aS aT (-1)
  obtain ⟨hn, hc, hR, hB, hF, hG, hU, hp⟩ := hI
  unfold wpX_best
  dsimp only
  refine up_xle hn hc ?_
  unfold wpY_best
  dsimp only
  exact up_yle hn hc hp ⟨e2.trans e1.symm, J⟩
theorem i_vc_fewestBoxed {k : Nat} {u : SX} {v : SY} (I : i_Rel k u v) (hk : k + 5 ≤ 2561) : wpX_fewestBoxed (fun r => wpY_fewestBoxed (fun r' => r' = r ∧ i_Rel (k + 5) u v) v) u := by
  obtain ⟨n, c, aR, aB, aF, aS, aT, aG, aU, aP, rfl, rfl, hI⟩ := I
  have J : i_Rel (k + 5) (nI n, nI (2 ^ n), nI c, aR, aB, aF, aS, aT, aG, aU) (nI n, nI (2 ^ n), nI c, aP, aF, aS, aT, aG, aU) := up_R hI
  obtain ⟨L, e1, e2⟩ := up_L hI aS aT (-1)
  obtain ⟨hn, hc, hR, hB, hF, hG, hU, hp⟩ := hI
  refine up_xco hn hc e1 ?_
  unfold wpY_fewestBoxed
  dsimp only
  exact up_yco hn hc hp e2 ⟨rfl, J⟩
theorem i_vc_mostBoxed {k : Nat} {u : SX} {v : SY} (I : i_Rel k u v) (hk : k + 5 ≤ 2561) : wpX_mostBoxed (fun r => wpY_mostBoxed (fun r' => r' = r ∧ i_Rel (k + 5) u v) v) u := by
  obtain ⟨n, c, aR, aB, aF, aS, aT, aG, aU, aP, rfl, rfl, hI⟩ := I
  have J : i_Rel (k + 5) (nI n, nI (2 ^ n), nI c, aR, aB, aF, aS, aT, aG, aU) (nI n, nI (2 ^ n), nI c, aP, aF, aS, aT, aG, aU) := up_R hI
  obtain ⟨L, e1, e2⟩ := up_L hI aS aT (-1)
  obtain ⟨hn, hc, hR, hB, hF, hG, hU, hp⟩ := hI
  refine up_xso hn hc e1 ?_
  unfold wpY_mostBoxed
  dsimp only
  exact up_yso hn hc hp e2 ⟨rfl, J⟩
theorem i_vc_settled {k : Nat} {u : SX} {v : SY} (I : i_Rel k u v) (hk : k + 5 ≤ 2561) (v1 : Int32) : wpX_settled (fun r => wpY_settled (fun r' => r' = r ∧ i_Rel (k + 5) u v) v v1) u v1 := by
  obtain ⟨n, c, aR, aB, aF, aS, aT, aG, aU, aP, rfl, rfl, hI⟩ := I
  have J : i_Rel (k + 5) (nI n, nI (2 ^ n), nI c, aR, aB, aF, aS, aT, aG, aU) (nI n, nI (2 ^ n), nI c, aP, aF, aS, aT, aG, aU) := up_R hI
  obtain ⟨L, e1, e2⟩ := up_L hI aS aT (-1)
  obtain ⟨hn, hc, hR, hB, hF, hG, hU, hp⟩ := hI
  unfold wpX_settled
  dsimp only
  rcases up_ix v1 n (by omega) with hb | ⟨j, hj, rfl⟩
  · refine up_xv0 hb (br_t rfl ?_)
    unfold wpY_settled
    dsimp only
    exact up_yv0 hb (br_f (by decide) ⟨rfl, J⟩)
  · refine up_xv1 hj hn (br_f (by decide) (up_xco hn hc e1 ?_))
    have key : ∀ post : Int32 → Prop, (wpY_form (fun r_32 => (((r_32 = 1 → (post 1)) ∧ (¬ r_32 = 1 → (wpY_form (fun r_43 => (((r_43 = 0 → (post 0)) ∧ (¬ r_43 = 0 → (post 2))))) (nI n, nI (2 ^ n), nI c, aP, aF, aS, aT, aG, aU) (up_it (up_Fo (fun k => up_Al n aF (nI k) ∧ up_tc n c aR aB aS aT aG aU (nI k) (-1) = L) (fun a b => a ||| b)) 0 (2 ^ n)) (nI j)))))) (nI n, nI (2 ^ n), nI c, aP, aF, aS, aT, aG, aU) (up_it (up_Fo (fun k => up_Al n aF (nI k) ∧ up_tc n c aR aB aS aT aG aU (nI k) (-1) = L) (fun a b => a &&& b)) (nI (2 ^ n) - 1) (2 ^ n)) (nI j)) → wpY_settled post (nI n, nI (2 ^ n), nI c, aP, aF, aS, aT, aG, aU) (nI j) := by
      intro post h
      unfold wpY_settled
      dsimp only
      exact up_yv1 hj hn (br_t rfl (up_yco hn hc hp e2 (up_yso hn hc hp e2 h)))
    generalize hA : up_it (up_Fo (fun k => up_Al n aF (nI k) ∧ up_tc n c aR aB aS aT aG aU (nI k) (-1) = L) (fun a b => a &&& b)) (nI (2 ^ n) - 1) (2 ^ n) = A at key ⊢
    by_cases y : up_fm A (nI j) = 1
    · exact br_t y (key _ (br_t y ⟨rfl, J⟩))
    · refine br_f y (up_xso hn hc e1 ?_)
      generalize hO : up_it (up_Fo (fun k => up_Al n aF (nI k) ∧ up_tc n c aR aB aS aT aG aU (nI k) (-1) = L) (fun a b => a ||| b)) 0 (2 ^ n) = O at key ⊢
      by_cases z : up_fm O (nI j) = 0
      · exact br_t z (key _ (br_f y (br_t z ⟨rfl, J⟩)))
      · exact br_f z (key _ (br_f y (br_f z ⟨rfl, J⟩)))
theorem i_vc_bestWith {k : Nat} {u : SX} {v : SY} (I : i_Rel k u v) (hk : k + 5 ≤ 2561) (v1 : Int32) (v2 : Int32) : wpX_bestWith (fun r => wpY_bestWith (fun r' => r' = r ∧ i_Rel (k + 5) u v) v v1 v2) u v1 v2 := by
  obtain ⟨n, c, aR, aB, aF, aS, aT, aG, aU, aP, rfl, rfl, hI⟩ := I
  have J : i_Rel (k + 5) (nI n, nI (2 ^ n), nI c, aR, aB, aF, aS, aT, aG, aU) (nI n, nI (2 ^ n), nI c, aP, aF, aS, aT, aG, aU) := up_R hI
  have hT := up_tb hI aS aT
  obtain ⟨hn, hc, hR, hB, hF, hG, hU, hp⟩ := hI
  unfold wpX_bestWith
  dsimp only
  rcases up_ix v1 n (by omega) with hb | ⟨j, hj, rfl⟩
  · refine up_xv0 hb (br_t rfl ?_)
    unfold wpY_bestWith
    dsimp only
    exact up_yv0 hb (br_f (by decide) ⟨rfl, J⟩)
  · refine up_xv1 hj hn (br_f (by decide) ?_)
    by_cases hf : v2 = 0 ∨ v2 = 1
    · refine up_xf1 hf (br_f (by decide) ?_)
      have hin : vp_in (nI j) 10 := vp_in_nI (by omega) (by omega)
      have ec : (nI j).toNatClampNeg = j := nI_clamp (by omega)
      have key : ∀ post : Int32 → Prop, post (up_it (up_Fy (fun k => up_Al n aF (nI k) ∧ up_fm (nI k) (nI j) = v2) (fun k => up_tc n c aR aB aS aT aG aU (nI k) (-1))) (-3) (2 ^ n)) → wpY_bestWith post (nI n, nI (2 ^ n), nI c, aP, aF, aS, aT, aG, aU) (nI j) v2 := by
        intro post h
        unfold wpY_bestWith
        dsimp only
        exact up_yv1 hj hn (br_t rfl (up_or hf (up_ybw hn hc hp h)))
      have hacc := up_acc (fun k => up_Al n aF (nI k) ∧ up_fm (nI k) (nI j) = v2) (fun k => up_tc n c aR aB aS aT aG aU (nI k) (-1)) (-3) (by decide) (fun i => hT (nI i) (-1)) (2 ^ n)
      have good : aF j = 2 ∨ aF j = v2 → ∃ n51 : Nat, wX_bestWith_51 (fun r => wpY_bestWith (fun r' => r' = r ∧ i_Rel (k + 5) (nI n, nI (2 ^ n), nI c, aR, aB, aF, aS, aT, aG, aU) (nI n, nI (2 ^ n), nI c, aP, aF, aS, aT, aG, aU)) (nI n, nI (2 ^ n), nI c, aP, aF, aS, aT, aG, aU) (nI j) v2) (nI j) v2 (nI n) (nI (2 ^ n)) (nI c) aR aB aF aS aT aG aU n51 1201 0 := by
        intro hg
        refine up_xbw hn hc (key _ ⟨?_, J⟩)
        rcases hacc with ⟨h, _⟩ | ⟨_, m, _, e1, e2⟩
        · obtain ⟨i, hi, hA, hv⟩ := up_exW hn hF hj hf hg
          exact absurd ⟨hA, hv⟩ (h i hi)
        · exact e2.trans e1.symm
      rw [ec]
      refine ⟨hin, ?_⟩
      by_cases h2 : aF j = 2
      · exact br_t h2 (good (Or.inl h2))
      · refine br_f h2 ⟨hin, ?_⟩
        by_cases h3 : aF j = v2
        · exact br_t h3 (good (Or.inr h3))
        · refine br_f h3 (key _ ⟨?_, J⟩)
          rcases hacc with ⟨_, _, e⟩ | ⟨⟨i, hi, hA, hv⟩, _⟩
          · exact e
          · rcases hA j hj with h | h
            · exact absurd h h2
            · exact absurd (h.trans hv) h3
    · refine up_xf0 hf (br_t rfl ?_)
      unfold wpY_bestWith
      dsimp only
      exact up_yv1 hj hn (br_t rfl (br_f (fun z => hf (Or.inl z)) (br_f (fun z => hf (Or.inr z)) ⟨rfl, J⟩)))
theorem i_vc_bestTied {k : Nat} {u : SX} {v : SY} (I : i_Rel k u v) (hk : k + 5 ≤ 2561) (v1 : Int32) (v2 : Int32) (v3 : Int32) : wpX_bestTied (fun r => wpY_bestTied (fun r' => r' = r ∧ i_Rel (k + 5) u v) v v1 v2 v3) u v1 v2 v3 := by
  obtain ⟨n, c, aR, aB, aF, aS, aT, aG, aU, aP, rfl, rfl, hI⟩ := I
  have J : i_Rel (k + 5) (nI n, nI (2 ^ n), nI c, aR, aB, aF, aS, aT, aG, aU) (nI n, nI (2 ^ n), nI c, aP, aF, aS, aT, aG, aU) := up_R hI
  have hT := up_tb hI aS aT
  obtain ⟨hn, hc, hR, hB, hF, hG, hU, hp⟩ := hI
  unfold wpX_bestTied
  dsimp only
  rcases up_ix v1 n (by omega) with hb | ⟨i, hi, rfl⟩
  · refine up_xv0 hb (br_t rfl ?_)
    unfold wpY_bestTied
    dsimp only
    exact up_yv0 hb (br_f (by decide) ⟨rfl, J⟩)
  · refine up_xv1 hi hn (br_f (by decide) ?_)
    rcases up_ix v2 n (by omega) with hb | ⟨j, hj, rfl⟩
    · refine up_xv0 hb (br_t rfl ?_)
      unfold wpY_bestTied
      dsimp only
      exact up_yv1 hi hn (br_t rfl (up_yv0 hb (br_f (by decide) ⟨rfl, J⟩)))
    · refine up_xv1 hj hn (br_f (by decide) ?_)
      have key : ∀ post : Int32 → Prop, post (up_it (up_Fy (up_Ct n aF (nI i) (nI j) v3) (fun k => up_tc n c aR aB aS aT aG aU (nI k) (-1))) (-2) (2 ^ n)) → wpY_bestTied post (nI n, nI (2 ^ n), nI c, aP, aF, aS, aT, aG, aU) (nI i) (nI j) v3 := by
        intro post h
        unfold wpY_bestTied
        dsimp only
        exact up_yv1 hi hn (br_t rfl (up_yv1 hj hn (br_t rfl (up_ybt hn hc hp h))))
      have hacc := up_acc (up_Ct n aF (nI i) (nI j) v3) (fun k => up_tc n c aR aB aS aT aG aU (nI k) (-1)) (-2) (by decide) (fun i => hT (nI i) (-1)) (2 ^ n)
      have good : ∀ w : Int32, (w = 0 ∧ v3 = 0) ∨ (w = 1 ∧ ¬ v3 = 0) → ∃ n37 : Nat, wX_bestTied_37 (fun r => wpY_bestTied (fun r' => r' = r ∧ i_Rel (k + 5) (nI n, nI (2 ^ n), nI c, aR, aB, aF, aS, aT, aG, aU) (nI n, nI (2 ^ n), nI c, aP, aF, aS, aT, aG, aU)) (nI n, nI (2 ^ n), nI c, aP, aF, aS, aT, aG, aU) (nI i) (nI j) v3) (nI i) (nI j) w (nI n) (nI (2 ^ n)) (nI c) aR aB aF aS aT aG aU n37 1201 0 := by
        intro w hw
        refine up_xbt hn hc hw ?_
        rcases hacc with ⟨_, e1, e2⟩ | ⟨_, m, hm, e1, e2⟩
        · exact br_t e1 (key _ ⟨e2, J⟩)
        · have ne : ¬ up_it (up_Fx (up_Ct n aF (nI i) (nI j) v3) (fun k => up_tc n c aR aB aS aT aG aU (nI k) (-1))) 1201 (2 ^ n) = 1201 := by
            rw [e1]
            intro h
            have h' : m = 1201 := (nI_eq (b := 1201) (by omega) (by decide)).mp h
            omega
          exact br_f ne (key _ ⟨e2.trans e1.symm, J⟩)
      by_cases h : v3 = 0
      · exact br_t h (good 0 (Or.inl ⟨rfl, h⟩))
      · exact br_f h (good 1 (Or.inr ⟨rfl, h⟩))
theorem i_vc_saving {k : Nat} {u : SX} {v : SY} (I : i_Rel k u v) (hk : k + 5 ≤ 2561) (v1 : Int32) : wpX_saving (fun r => wpY_saving (fun r' => r' = r ∧ i_Rel (k + 5) u v) v v1) u v1 := by
  obtain ⟨n, c, aR, aB, aF, aS, aT, aG, aU, aP, rfl, rfl, hI⟩ := I
  have J : i_Rel (k + 5) (nI n, nI (2 ^ n), nI c, aR, aB, aF, aS, aT, aG, aU) (nI n, nI (2 ^ n), nI c, aP, aF, aS, aT, aG, aU) := up_R hI
  obtain ⟨L, e1, e2⟩ := up_L hI aS aT (-1)
  obtain ⟨M, f1, f2⟩ := up_L hI aS aT v1
  obtain ⟨hn, hc, hR, hB, hF, hG, hU, hp⟩ := hI
  unfold wpX_saving
  dsimp only
  rcases up_ix v1 c (by omega) with hb | ⟨j, hj, rfl⟩
  · refine up_xw0 hb (br_t rfl ?_)
    unfold wpY_saving
    dsimp only
    exact up_yw0 hb (br_f (by decide) ⟨rfl, J⟩)
  · refine up_xw1 hj hc (br_f (by decide) (up_xle hn hc (up_xle hn hc ?_)))
    unfold wpY_saving
    dsimp only
    refine up_yw1 hj hc (br_t rfl (up_yle hn hc hp (up_yle hn hc hp ⟨?_, J⟩)))
    rw [e1, e2, f1, f2]
theorem i_vc_isBest {k : Nat} {u : SX} {v : SY} (I : i_Rel k u v) (hk : k + 5 ≤ 2561) (v1 : Int32) : wpX_isBest (fun r => wpY_isBest (fun r' => r' = r ∧ i_Rel (k + 5) u v) v v1) u v1 := by
  obtain ⟨n, c, aR, aB, aF, aS, aT, aG, aU, aP, rfl, rfl, hI⟩ := I
  have J : i_Rel (k + 5) (nI n, nI (2 ^ n), nI c, aR, aB, aF, aS, aT, aG, aU) (nI n, nI (2 ^ n), nI c, aP, aF, aS, aT, aG, aU) := up_R hI
  obtain ⟨L, e1, e2⟩ := up_L hI aS aT (-1)
  obtain ⟨hn, hc, hR, hB, hF, hG, hU, hp⟩ := hI
  have hP := up_pow hn
  unfold wpX_isBest
  dsimp only
  rcases up_ix v1 (2 ^ n) (by omega) with hb | ⟨j, hj, rfl⟩
  · refine up_xp0 hb (br_t rfl ?_)
    unfold wpY_isBest
    dsimp only
    by_cases z : v1 < 0
    · exact br_t z ⟨rfl, J⟩
    · exact br_f z (br_f (Int32.not_lt.mpr (hb.resolve_left z)) ⟨rfl, J⟩)
  · refine up_xp1 hj hn (br_f (by decide) (up_xle hn hc ?_))
    rw [e1]
    refine up_xat hn hc (fun hA => br_f (by decide) ?_) (fun hA => br_t rfl ?_)
    · unfold wpY_isBest
      dsimp only
      refine br_f (nI_pos (by omega)) (br_t (nI_lt hj (by omega)) (up_yle hn hc hp ?_))
      rw [e2]
      exact up_yal hn (fun _ => br_f (by decide) (up_ytc hn hc hp (br_t hA.2 ⟨rfl, J⟩))) (fun h => absurd hA.1 h)
    · unfold wpY_isBest
      dsimp only
      refine br_f (nI_pos (by omega)) (br_t (nI_lt hj (by omega)) (up_yle hn hc hp ?_))
      rw [e2]
      exact up_yal hn (fun h => br_f (by decide) (up_ytc hn hc hp (br_f (fun z => hA ⟨h, z⟩) ⟨rfl, J⟩))) (fun h => br_t rfl ⟨rfl, J⟩)
theorem i_vc_settledCount {k : Nat} {u : SX} {v : SY} (I : i_Rel k u v) (hk : k + 5 ≤ 2561) : wpX_settledCount (fun r => wpY_settledCount (fun r' => r' = r ∧ i_Rel (k + 5) u v) v) u := by
  obtain ⟨n, c, aR, aB, aF, aS, aT, aG, aU, aP, rfl, rfl, hI⟩ := I
  have J : i_Rel (k + 5) (nI n, nI (2 ^ n), nI c, aR, aB, aF, aS, aT, aG, aU) (nI n, nI (2 ^ n), nI c, aP, aF, aS, aT, aG, aU) := up_R hI
  obtain ⟨L, e1, e2⟩ := up_L hI aS aT (-1)
  obtain ⟨hn, hc, hR, hB, hF, hG, hU, hp⟩ := hI
  unfold wpX_settledCount
  dsimp only
  refine up_xco hn hc e1 (up_xso hn hc e1 (up_xsc hn ?_))
  unfold wpY_settledCount
  dsimp only
  exact up_yco hn hc hp e2 (up_yso hn hc hp e2 (up_ysc hn ⟨rfl, J⟩))
end
