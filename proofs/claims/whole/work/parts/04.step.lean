/-! put and take, cost, fuel -/
theorem pk_sub {a b : Nat} (h : b ≤ a) : nI a - nI b = nI (a - b) := by
  obtain ⟨c, rfl⟩ : ∃ c, a = c + b := ⟨a - b, by omega⟩
  rw [← nI_add, Int32.add_sub_cancel, Nat.add_sub_cancel]
theorem fg_upd_same (f : Nat → Int32) (k : Nat) : upd f k (f k) = f := by
  funext j
  by_cases c : j = k
  · rw [c, pk_us]
  · rw [pk_un c]
theorem fg_xput (post : SX → Prop) (C s at' F st : Int32) (ops cs cells a stk : Nat → Int32) (h : Nat) (hh : h < 8) (x : Int32) (K : post (C, s, nI (h + 1), at', F, st, ops, cs, cells, a, upd stk h x)) : wpX_put post (C, s, nI h, at', F, st, ops, cs, cells, a, stk) x := by
  refine br_f (nI_pos (by omega)) (br_f (nI_ge (b := 8) hh (by omega)) ⟨vp_in_nI hh (by omega), ?_⟩)
  intro t et y ey
  rw [nI_clamp (by omega)] at et
  rw [nI_1] at ey
  rw [et, ey]
  exact K
theorem fg_xtake (post : Int32 → SX → Prop) (C s at' F st : Int32) (ops cs cells a stk : Nat → Int32) (m : Nat) (hm : m < 8) (K : post (stk m) (C, s, nI m, at', F, st, ops, cs, cells, a, stk)) : wpX_take post (C, s, nI (m + 1), at', F, st, ops, cs, cells, a, stk) := by
  refine br_f (nI_nle (by omega) (by omega)) (br_t (nI_le (b := 8) (by omega) (by omega)) ?_)
  intro y ey
  rw [nI_pred] at ey
  rw [ey, nI_clamp (by omega)]
  exact ⟨vp_in_nI hm (by omega), K⟩
theorem fg_yput (post : SY → Prop) (C st F at' : Int32) (ops cs cells b stk : Nat → Int32) (h : Nat) (hh : h < 16) (x : Int32) (K : post (C, st, F, at', nI (h + 1), ops, cs, cells, b, upd stk h x)) : wpY_put post (C, st, F, at', nI h, ops, cs, cells, b, stk) x := by
  refine br_f (nI_ge (b := 16) hh (by omega)) ⟨vp_in_nI hh (by omega), ?_⟩
  intro t et y ey
  rw [nI_clamp (by omega)] at et
  rw [nI_1] at ey
  rw [et, ey]
  exact K
theorem fg_ytake (post : Int32 → SY → Prop) (C st F at' : Int32) (ops cs cells b stk : Nat → Int32) (m : Nat) (hm : m < 16) (K : post (stk m) (C, st, F, at', nI m, ops, cs, cells, b, stk)) : wpY_take post (C, st, F, at', nI (m + 1), ops, cs, cells, b, stk) := by
  refine br_f (nI_ne0 (by omega) (by omega)) ?_
  intro y ey
  rw [nI_pred] at ey
  rw [ey, nI_clamp (by omega)]
  exact ⟨vp_in_nI hm (by omega), K⟩
def fg_cost (o c : Int32) : Nat := if o = 14 then c.toBitVec.toNat % 2 ^ 4 + 1 else if o = 5 then 3 else 1
theorem fg_cost_in (o c : Int32) : 1 ≤ fg_cost o c ∧ fg_cost o c ≤ 16 := by
  unfold fg_cost
  split
  · have := Nat.mod_lt c.toBitVec.toNat (show 0 < 2 ^ 4 by decide)
    omega
  · split <;> omega
theorem fg_cost14 (c : Int32) : (c &&& 15) + 1 = nI (c.toBitVec.toNat % 2 ^ 4 + 1) := by
  rw [pk_and c 4 (by decide), nI_1]
theorem fg_xcost (post : Int32 → Prop) (o c : Int32) (K : post (nI (fg_cost o c))) : wpX_costOf post o c := by
  unfold fg_cost at K
  by_cases d : o = 14
  · rw [if_pos d, ← fg_cost14] at K
    exact br_t d K
  · rw [if_neg d] at K
    by_cases d5 : o = 5
    · rw [if_pos d5] at K
      exact br_f d (br_t d5 K)
    · rw [if_neg d5] at K
      exact br_f d (br_f d5 K)
theorem fg_ycost (post : Int32 → Prop) (C st F at' hi' : Int32) (ops cs cells b stk : Nat → Int32) (p : Nat) (hp : p < 24) (K : post (nI (fg_cost (ops p) (cs p)))) : wpY_cost post (C, st, F, at', hi', ops, cs, cells, b, stk) (nI p) := by
  have hi : vp_in (nI p) 24 := vp_in_nI (by omega) (by omega)
  have hc : (nI p).toNatClampNeg = p := nI_clamp (by omega)
  unfold fg_cost at K
  unfold wpY_cost
  rw [hc]
  by_cases d : ops p = 14
  · rw [if_pos d, ← fg_cost14] at K
    exact ⟨hi, br_t d ⟨hi, K⟩⟩
  · rw [if_neg d] at K
    by_cases d5 : ops p = 5
    · rw [if_pos d5] at K
      exact ⟨hi, br_f d ⟨hi, br_t d5 K⟩⟩
    · rw [if_neg d5] at K
      exact ⟨hi, br_f d ⟨hi, br_f d5 K⟩⟩
def fg_af (x : Int32) : Nat := if x < 0 then 0 else if x.toNatClampNeg ≤ 2000 then x.toNatClampNeg else 2000
theorem fg_af_le (x : Int32) : fg_af x ≤ 2000 := by
  unfold fg_af
  split
  · omega
  · split <;> omega
theorem fg_af_nI {k : Nat} (hk : k < 2 ^ 31) : fg_af (nI k) = if k ≤ 2000 then k else 2000 := by
  unfold fg_af
  rw [if_neg (nI_pos hk), nI_clamp hk]
theorem fg_xaf (post : Int32 → Prop) (x : Int32) (K : post (nI (fg_af x))) : wpX_allowedFuel post x := by
  by_cases h0 : x < 0
  · have e : fg_af x = 0 := if_pos h0
    rw [e] at K
    exact br_f (Int32.not_le.mpr h0) K
  · obtain ⟨j, hj, rfl⟩ := nI_of h0
    rw [fg_af_nI hj] at K
    refine br_t (nI_pos' hj) ?_
    by_cases h1 : j ≤ 2000
    · rw [if_pos h1] at K
      exact br_t (nI_le (b := 2000) h1 (by omega)) K
    · rw [if_neg h1] at K
      exact br_f (nI_ge (a := 2000) (by omega) hj) K
theorem fg_yleast (post : Int32 → Prop) (v : SY) (j : Nat) (hj : j < 2 ^ 31) (K : post (nI (if j ≤ 2000 then j else 2000))) : wpY_least post v (nI j) 2000 := by
  obtain ⟨v1, v2, v3, v4, v5, v6, v7, v8, v9, v10⟩ := v
  by_cases h1 : 2000 ≤ j
  · have e : (if j ≤ 2000 then j else 2000) = 2000 := by
      split <;> omega
    rw [e] at K
    exact br_t (nI_le (a := 2000) h1 hj) K
  · rw [if_pos (by omega)] at K
    exact br_f (nI_ge (b := 2000) (by omega) (by omega)) K
theorem fg_yaf (post : Int32 → Prop) (v : SY) (x : Int32) (K : post (nI (fg_af x))) : wpY_held post v x := by
  obtain ⟨v1, v2, v3, v4, v5, v6, v7, v8, v9, v10⟩ := v
  by_cases h0 : x < 0
  · have e : fg_af x = 0 := if_pos h0
    rw [e] at K
    exact br_f (Int32.not_le.mpr h0) K
  · obtain ⟨j, hj, rfl⟩ := nI_of h0
    rw [fg_af_nI hj] at K
    exact br_t (nI_pos' hj) (fg_yleast _ _ j hj K)
/-! one instruction: X -/
theorem fg_xo0 (post : SX → Prop) (C s F st : Int32) (ops cs cells a stk : Nat → Int32) (m p : Nat) (hm : m < 8) (c : Int32) (K : post (C, s, nI (m + 1), nI (p + 1), F, st, ops, cs, cells, a, (upd stk m c))) : wpX_carryOut post (C, s, nI (m), nI p, F, st, ops, cs, cells, a, stk) 0 c := by
  intro x3 e3
  rw [nI_1] at e3
  subst e3
  refine br_f (by decide) (br_f (by decide) (br_t rfl (fg_xput _ _ _ _ _ _ _ _ _ _ _ (m) (by omega) _ K)))
theorem fg_xo1 (post : SX → Prop) (C s F st : Int32) (ops cs cells a stk : Nat → Int32) (m p : Nat) (hm : m < 8) (c : Int32) (K : post (C, s, nI (m), nI (p + 1), F, st, ops, cs, cells, a, stk)) : wpX_carryOut post (C, s, nI (m + 1), nI p, F, st, ops, cs, cells, a, stk) 1 c := by
  intro x3 e3
  rw [nI_1] at e3
  subst e3
  refine br_f (by decide) (br_f (by decide) (br_f (by decide) (br_t rfl (fg_xtake _ _ _ _ _ _ _ _ _ _ _ (m) (by omega) K))))
theorem fg_xo2 (post : SX → Prop) (C s F st : Int32) (ops cs cells a stk : Nat → Int32) (m p : Nat) (hm : m + 1 < 8) (c : Int32) (K : post (C, s, nI (m + 1 + 1), nI (p + 1), F, st, ops, cs, cells, a, (upd stk (m + 1) (stk m)))) : wpX_carryOut post (C, s, nI (m + 1), nI p, F, st, ops, cs, cells, a, stk) 2 c := by
  intro x3 e3
  rw [nI_1] at e3
  subst e3
  have ee : upd (upd stk m (stk m)) (m + 1) (stk m) = upd stk (m + 1) (stk m) := by rw [fg_upd_same]
  rw [← ee] at K
  refine br_f (by decide) (br_f (by decide) (br_f (by decide) (br_f (by decide) (br_t rfl ?_))))
  unfold wpX_duplicate
  exact (fg_xtake _ _ _ _ _ _ _ _ _ _ _ (m) (by omega) (fg_xput _ _ _ _ _ _ _ _ _ _ _ (m) (by omega) _ (fg_xput _ _ _ _ _ _ _ _ _ _ _ (m + 1) (by omega) _ K)))
theorem fg_xo3 (post : SX → Prop) (C s F st : Int32) (ops cs cells a stk : Nat → Int32) (m p : Nat) (hm : m + 1 < 8) (c : Int32) (K : post (C, s, nI (m + 1), nI (p + 1), F, st, ops, cs, cells, a, (upd stk m (stk m + stk (m + 1))))) : wpX_carryOut post (C, s, nI (m + 1 + 1), nI p, F, st, ops, cs, cells, a, stk) 3 c := by
  intro x3 e3
  rw [nI_1] at e3
  subst e3
  refine br_f (by decide) (br_f (by decide) (br_f (by decide) (br_f (by decide) (br_f (by decide) (br_t rfl ?_)))))
  unfold wX_carryOut_177 wpX_carryOutOnTwo
  exact (fg_xtake _ _ _ _ _ _ _ _ _ _ _ (m + 1) (by omega) (fg_xtake _ _ _ _ _ _ _ _ _ _ _ (m) (by omega) (br_f (by decide) (br_f (by decide) (br_t rfl (fg_xput _ _ _ _ _ _ _ _ _ _ _ (m) (by omega) _ K))))))
theorem fg_xo4 (post : SX → Prop) (C s F st : Int32) (ops cs cells a stk : Nat → Int32) (m p : Nat) (hm : m + 1 < 8) (c : Int32) (K : post (C, s, nI (m + 1), nI (p + 1), F, st, ops, cs, cells, a, (upd stk m (stk m - stk (m + 1))))) : wpX_carryOut post (C, s, nI (m + 1 + 1), nI p, F, st, ops, cs, cells, a, stk) 4 c := by
  intro x3 e3
  rw [nI_1] at e3
  subst e3
  refine br_f (by decide) (br_f (by decide) (br_f (by decide) (br_f (by decide) (br_f (by decide) (br_f (by decide) (br_t rfl ?_))))))
  unfold wX_carryOut_177 wpX_carryOutOnTwo
  exact (fg_xtake _ _ _ _ _ _ _ _ _ _ _ (m + 1) (by omega) (fg_xtake _ _ _ _ _ _ _ _ _ _ _ (m) (by omega) (br_f (by decide) (br_f (by decide) (br_f (by decide) (br_t rfl (fg_xput _ _ _ _ _ _ _ _ _ _ _ (m) (by omega) _ K)))))))
theorem fg_xo5 (post : SX → Prop) (C s F st : Int32) (ops cs cells a stk : Nat → Int32) (m p : Nat) (hm : m + 1 < 8) (c : Int32) (K : post (C, s, nI (m + 1), nI (p + 1), F, st, ops, cs, cells, a, (upd stk m (stk m * stk (m + 1))))) : wpX_carryOut post (C, s, nI (m + 1 + 1), nI p, F, st, ops, cs, cells, a, stk) 5 c := by
  intro x3 e3
  rw [nI_1] at e3
  subst e3
  refine br_f (by decide) (br_f (by decide) (br_f (by decide) (br_f (by decide) (br_f (by decide) (br_f (by decide) (br_f (by decide) (br_t rfl ?_)))))))
  unfold wX_carryOut_177 wpX_carryOutOnTwo
  exact (fg_xtake _ _ _ _ _ _ _ _ _ _ _ (m + 1) (by omega) (fg_xtake _ _ _ _ _ _ _ _ _ _ _ (m) (by omega) (br_f (by decide) (br_f (by decide) (br_f (by decide) (br_f (by decide) (br_t rfl (fg_xput _ _ _ _ _ _ _ _ _ _ _ (m) (by omega) _ K))))))))
theorem fg_xo6 (post : SX → Prop) (C s F st : Int32) (ops cs cells a stk : Nat → Int32) (m p : Nat) (hm : m + 1 < 8) (c : Int32) (K : post (C, s, nI (m + 1 + 1), nI (p + 1), F, st, ops, cs, cells, a, (upd (upd stk m (stk (m + 1))) (m + 1) (stk m)))) : wpX_carryOut post (C, s, nI (m + 1 + 1), nI p, F, st, ops, cs, cells, a, stk) 6 c := by
  intro x3 e3
  rw [nI_1] at e3
  subst e3
  refine br_f (by decide) (br_f (by decide) (br_f (by decide) (br_f (by decide) (br_f (by decide) (br_f (by decide) (br_f (by decide) (br_f (by decide) (br_t rfl ?_))))))))
  unfold wX_carryOut_177 wpX_carryOutOnTwo
  exact (fg_xtake _ _ _ _ _ _ _ _ _ _ _ (m + 1) (by omega) (fg_xtake _ _ _ _ _ _ _ _ _ _ _ (m) (by omega) (br_f (by decide) (br_f (by decide) (br_f (by decide) (br_f (by decide) (br_f (by decide) (br_t rfl (fg_xput _ _ _ _ _ _ _ _ _ _ _ (m) (by omega) _ (fg_xput _ _ _ _ _ _ _ _ _ _ _ (m + 1) (by omega) _ K))))))))))
theorem fg_xo7 (post : SX → Prop) (C s F st : Int32) (ops cs cells a stk : Nat → Int32) (m p : Nat) (hm : m + 2 < 8) (c : Int32) (K : post (C, s, nI (m + 1 + 1 + 1), nI (p + 1), F, st, ops, cs, cells, a, (upd (upd (upd stk m (stk m)) (m + 1) (stk (m + 1))) (m + 1 + 1) (stk m)))) : wpX_carryOut post (C, s, nI (m + 1 + 1), nI p, F, st, ops, cs, cells, a, stk) 7 c := by
  intro x3 e3
  rw [nI_1] at e3
  subst e3
  refine br_f (by decide) (br_f (by decide) (br_f (by decide) (br_f (by decide) (br_f (by decide) (br_f (by decide) (br_f (by decide) (br_f (by decide) (br_f (by decide) (br_t rfl ?_)))))))))
  unfold wX_carryOut_177 wpX_carryOutOnTwo
  exact (fg_xtake _ _ _ _ _ _ _ _ _ _ _ (m + 1) (by omega) (fg_xtake _ _ _ _ _ _ _ _ _ _ _ (m) (by omega) (br_f (by decide) (br_f (by decide) (br_f (by decide) (br_f (by decide) (br_f (by decide) (br_f (by decide) (br_t rfl (fg_xput _ _ _ _ _ _ _ _ _ _ _ (m) (by omega) _ (fg_xput _ _ _ _ _ _ _ _ _ _ _ (m + 1) (by omega) _ (fg_xput _ _ _ _ _ _ _ _ _ _ _ (m + 1 + 1) (by omega) _ K))))))))))))
theorem fg_xo8 (post : SX → Prop) (C s F st : Int32) (ops cs cells a stk : Nat → Int32) (m p : Nat) (hm : m ≤ 8) (c : Int32) (K : post (C, s, nI (m), c, F, st, ops, cs, cells, a, stk)) : wpX_carryOut post (C, s, nI (m), nI p, F, st, ops, cs, cells, a, stk) 8 c := by
  intro x3 e3
  rw [nI_1] at e3
  subst e3
  refine br_f (by decide) (br_f (by decide) (br_f (by decide) (br_f (by decide) (br_f (by decide) (br_f (by decide) (br_f (by decide) (br_f (by decide) (br_f (by decide) (br_f (by decide) (br_t rfl K))))))))))
theorem fg_xo9 (post : SX → Prop) (C s F st : Int32) (ops cs cells a stk : Nat → Int32) (m p : Nat) (hm : m < 8) (c : Int32) (K0 : stk m = 0 → post (C, s, nI (m), c, F, st, ops, cs, cells, a, stk)) (K1 : ¬ stk m = 0 → post (C, s, nI (m), nI (p + 1), F, st, ops, cs, cells, a, stk)) : wpX_carryOut post (C, s, nI (m + 1), nI p, F, st, ops, cs, cells, a, stk) 9 c := by
  intro x3 e3
  rw [nI_1] at e3
  subst e3
  refine br_f (by decide) (br_f (by decide) (br_f (by decide) (br_f (by decide) (br_f (by decide) (br_f (by decide) (br_f (by decide) (br_f (by decide) (br_f (by decide) (br_f (by decide) (br_f (by decide) (br_t rfl (fg_xtake _ _ _ _ _ _ _ _ _ _ _ (m) (by omega) (br_c K0 K1)))))))))))))
theorem fg_xo10 (post : SX → Prop) (C s F st : Int32) (ops cs cells a stk : Nat → Int32) (m p : Nat) (hm : m < 8) (c : Int32) (K0 : stk m ≤ 0 → post (C, s, nI (m), nI (p + 1), F, st, ops, cs, cells, a, stk)) (K1 : ¬ stk m ≤ 0 → post (C, s, nI (m), c, F, st, ops, cs, cells, a, stk)) : wpX_carryOut post (C, s, nI (m + 1), nI p, F, st, ops, cs, cells, a, stk) 10 c := by
  intro x3 e3
  rw [nI_1] at e3
  subst e3
  refine br_f (by decide) (br_f (by decide) (br_f (by decide) (br_f (by decide) (br_f (by decide) (br_f (by decide) (br_f (by decide) (br_f (by decide) (br_f (by decide) (br_f (by decide) (br_f (by decide) (br_f (by decide) (br_t rfl (fg_xtake _ _ _ _ _ _ _ _ _ _ _ (m) (by omega) (br_c K0 K1))))))))))))))
theorem fg_xo11 (post : SX → Prop) (C s F st : Int32) (ops cs cells a stk : Nat → Int32) (m p : Nat) (hm : m < 8) (c : Int32) (K : post (C, s, nI (m + 1), nI (p + 1), F, st, ops, cs, cells, a, (upd stk m (cells (c &&& 3).toNatClampNeg)))) : wpX_carryOut post (C, s, nI (m), nI p, F, st, ops, cs, cells, a, stk) 11 c := by
  intro x3 e3
  rw [nI_1] at e3
  subst e3
  refine br_f (by decide) (br_f (by decide) (br_f (by decide) (br_f (by decide) (br_f (by decide) (br_f (by decide) (br_f (by decide) (br_f (by decide) (br_f (by decide) (br_f (by decide) (br_f (by decide) (br_f (by decide) (br_f (by decide) (br_t rfl ⟨pk_andIn c 2 (by decide) (by omega), (fg_xput _ _ _ _ _ _ _ _ _ _ _ (m) (by omega) _ K)⟩)))))))))))))
theorem fg_xo12 (post : SX → Prop) (C s F st : Int32) (ops cs cells a stk : Nat → Int32) (m p : Nat) (hm : m < 8) (c : Int32) (K : post (C, s, nI (m), nI (p + 1), F, st, ops, cs, (upd cells (c &&& 3).toNatClampNeg (stk m)), a, stk)) : wpX_carryOut post (C, s, nI (m + 1), nI p, F, st, ops, cs, cells, a, stk) 12 c := by
  intro x3 e3
  rw [nI_1] at e3
  subst e3
  refine br_f (by decide) (br_f (by decide) (br_f (by decide) (br_f (by decide) (br_f (by decide) (br_f (by decide) (br_f (by decide) (br_f (by decide) (br_f (by decide) (br_f (by decide) (br_f (by decide) (br_f (by decide) (br_f (by decide) (br_f (by decide) (br_t rfl (fg_xtake _ _ _ _ _ _ _ _ _ _ _ (m) (by omega) ⟨pk_andIn c 2 (by decide) (by omega), nm_e K⟩)))))))))))))))
theorem fg_xo14 (post : SX → Prop) (C s F st : Int32) (ops cs cells a stk : Nat → Int32) (m p : Nat) (hm : m ≤ 8) (c : Int32) (K : post (C, s, nI (m), nI (p + 1), F, st, ops, cs, cells, a, stk)) : wpX_carryOut post (C, s, nI (m), nI p, F, st, ops, cs, cells, a, stk) 14 c := by
  intro x3 e3
  rw [nI_1] at e3
  subst e3
  refine br_f (by decide) (br_f (by decide) (br_f (by decide) (br_f (by decide) (br_f (by decide) (br_f (by decide) (br_f (by decide) (br_f (by decide) (br_f (by decide) (br_f (by decide) (br_f (by decide) (br_f (by decide) (br_f (by decide) (br_f (by decide) (br_f (by decide) (br_f (by decide) (br_t rfl K))))))))))))))))
/-! one instruction: Y -/
theorem fg_yo0 (post : SY → Prop) (C st F : Int32) (ops cs cells b stk : Nat → Int32) (m p : Nat) (hp : p < 24) (eo : ops p = 0) (hm : m < 8) (c : Int32) (ec : cs p = c) (K : post (C, st, F, nI (p + 1), nI (m + 1), ops, cs, cells, b, (upd stk m c))) : wpY_carryOut post (C, st, F, nI p, nI (m), ops, cs, cells, b, stk) := by
  have hi : vp_in (nI p) 24 := vp_in_nI (by omega) (by omega)
  have hc : (nI p).toNatClampNeg = p := nI_clamp (by omega)
  refine ⟨hi, fun x1 e1 => ⟨hi, fun x2 e2 => fun x3 e3 => ?_⟩⟩
  rw [hc] at e1 e2
  rw [nI_1] at e3
  have e1' := e1.trans eo
  have e2' := e2.trans ec
  clear e1 e2
  subst e1' e2' e3
  refine br_t rfl (fg_yput _ _ _ _ _ _ _ _ _ _ (m) (by omega) _ K)
theorem fg_yo1 (post : SY → Prop) (C st F : Int32) (ops cs cells b stk : Nat → Int32) (m p : Nat) (hp : p < 24) (eo : ops p = 1) (hm : m < 8) (c : Int32) (ec : cs p = c) (K : post (C, st, F, nI (p + 1), nI (m), ops, cs, cells, b, stk)) : wpY_carryOut post (C, st, F, nI p, nI (m + 1), ops, cs, cells, b, stk) := by
  have hi : vp_in (nI p) 24 := vp_in_nI (by omega) (by omega)
  have hc : (nI p).toNatClampNeg = p := nI_clamp (by omega)
  refine ⟨hi, fun x1 e1 => ⟨hi, fun x2 e2 => fun x3 e3 => ?_⟩⟩
  rw [hc] at e1 e2
  rw [nI_1] at e3
  have e1' := e1.trans eo
  have e2' := e2.trans ec
  clear e1 e2
  subst e1' e2' e3
  refine br_f (by decide) (br_t rfl (br_f (nI_nle (by omega) (by omega)) (nm_r (nI_pred m) K)))
theorem fg_yo2 (post : SY → Prop) (C st F : Int32) (ops cs cells b stk : Nat → Int32) (m p : Nat) (hp : p < 24) (eo : ops p = 2) (hm : m + 1 < 8) (c : Int32) (ec : cs p = c) (K : post (C, st, F, nI (p + 1), nI (m + 1 + 1), ops, cs, cells, b, (upd stk (m + 1) (stk m)))) : wpY_carryOut post (C, st, F, nI p, nI (m + 1), ops, cs, cells, b, stk) := by
  have hi : vp_in (nI p) 24 := vp_in_nI (by omega) (by omega)
  have hc : (nI p).toNatClampNeg = p := nI_clamp (by omega)
  refine ⟨hi, fun x1 e1 => ⟨hi, fun x2 e2 => fun x3 e3 => ?_⟩⟩
  rw [hc] at e1 e2
  rw [nI_1] at e3
  have e1' := e1.trans eo
  have e2' := e2.trans ec
  clear e1 e2
  subst e1' e2' e3
  refine br_f (by decide) (br_f (by decide) (br_t rfl ?_))
  have ei : (nI (m + 1) - 1) - 0 = nI m := by rw [nI_pred]; exact Int32.sub_zero _
  refine br_f (by decide) (br_t (nI_lt (a := 0) (by omega) (by omega)) ?_)
  rw [ei, nI_clamp (by omega)]
  exact ⟨vp_in_nI (by omega) (by omega), (fg_yput _ _ _ _ _ _ _ _ _ _ (m + 1) (by omega) _ K)⟩
theorem fg_yo3 (post : SY → Prop) (C st F : Int32) (ops cs cells b stk : Nat → Int32) (m p : Nat) (hp : p < 24) (eo : ops p = 3) (hm : m + 1 < 8) (c : Int32) (ec : cs p = c) (K : post (C, st, F, nI (p + 1), nI (m + 1), ops, cs, cells, b, (upd stk m (stk m + stk (m + 1))))) : wpY_carryOut post (C, st, F, nI p, nI (m + 1 + 1), ops, cs, cells, b, stk) := by
  have hi : vp_in (nI p) 24 := vp_in_nI (by omega) (by omega)
  have hc : (nI p).toNatClampNeg = p := nI_clamp (by omega)
  refine ⟨hi, fun x1 e1 => ⟨hi, fun x2 e2 => fun x3 e3 => ?_⟩⟩
  rw [hc] at e1 e2
  rw [nI_1] at e3
  have e1' := e1.trans eo
  have e2' := e2.trans ec
  clear e1 e2
  subst e1' e2' e3
  refine br_f (by decide) (br_f (by decide) (br_f (by decide) (br_f (by decide) ?_)))
  unfold wpY_two
  exact (fg_ytake _ _ _ _ _ _ _ _ _ _ (m + 1) (by omega) (fg_ytake _ _ _ _ _ _ _ _ _ _ (m) (by omega) (br_t rfl (fg_yput _ _ _ _ _ _ _ _ _ _ (m) (by omega) _ K))))
theorem fg_yo4 (post : SY → Prop) (C st F : Int32) (ops cs cells b stk : Nat → Int32) (m p : Nat) (hp : p < 24) (eo : ops p = 4) (hm : m + 1 < 8) (c : Int32) (ec : cs p = c) (K : post (C, st, F, nI (p + 1), nI (m + 1), ops, cs, cells, b, (upd stk m (stk m - stk (m + 1))))) : wpY_carryOut post (C, st, F, nI p, nI (m + 1 + 1), ops, cs, cells, b, stk) := by
  have hi : vp_in (nI p) 24 := vp_in_nI (by omega) (by omega)
  have hc : (nI p).toNatClampNeg = p := nI_clamp (by omega)
  refine ⟨hi, fun x1 e1 => ⟨hi, fun x2 e2 => fun x3 e3 => ?_⟩⟩
  rw [hc] at e1 e2
  rw [nI_1] at e3
  have e1' := e1.trans eo
  have e2' := e2.trans ec
  clear e1 e2
  subst e1' e2' e3
  refine br_f (by decide) (br_f (by decide) (br_f (by decide) (br_f (by decide) ?_)))
  unfold wpY_two
  exact (fg_ytake _ _ _ _ _ _ _ _ _ _ (m + 1) (by omega) (fg_ytake _ _ _ _ _ _ _ _ _ _ (m) (by omega) (br_f (by decide) (br_t rfl (fg_yput _ _ _ _ _ _ _ _ _ _ (m) (by omega) _ K)))))
theorem fg_yo5 (post : SY → Prop) (C st F : Int32) (ops cs cells b stk : Nat → Int32) (m p : Nat) (hp : p < 24) (eo : ops p = 5) (hm : m + 1 < 8) (c : Int32) (ec : cs p = c) (K : post (C, st, F, nI (p + 1), nI (m + 1), ops, cs, cells, b, (upd stk m (stk m * stk (m + 1))))) : wpY_carryOut post (C, st, F, nI p, nI (m + 1 + 1), ops, cs, cells, b, stk) := by
  have hi : vp_in (nI p) 24 := vp_in_nI (by omega) (by omega)
  have hc : (nI p).toNatClampNeg = p := nI_clamp (by omega)
  refine ⟨hi, fun x1 e1 => ⟨hi, fun x2 e2 => fun x3 e3 => ?_⟩⟩
  rw [hc] at e1 e2
  rw [nI_1] at e3
  have e1' := e1.trans eo
  have e2' := e2.trans ec
  clear e1 e2
  subst e1' e2' e3
  refine br_f (by decide) (br_f (by decide) (br_f (by decide) (br_f (by decide) ?_)))
  unfold wpY_two
  exact (fg_ytake _ _ _ _ _ _ _ _ _ _ (m + 1) (by omega) (fg_ytake _ _ _ _ _ _ _ _ _ _ (m) (by omega) (br_f (by decide) (br_f (by decide) (br_t rfl (fg_yput _ _ _ _ _ _ _ _ _ _ (m) (by omega) _ K))))))
theorem fg_yo6 (post : SY → Prop) (C st F : Int32) (ops cs cells b stk : Nat → Int32) (m p : Nat) (hp : p < 24) (eo : ops p = 6) (hm : m + 1 < 8) (c : Int32) (ec : cs p = c) (K : post (C, st, F, nI (p + 1), nI (m + 1 + 1), ops, cs, cells, b, (upd (upd stk m (stk (m + 1))) (m + 1) (stk m)))) : wpY_carryOut post (C, st, F, nI p, nI (m + 1 + 1), ops, cs, cells, b, stk) := by
  have hi : vp_in (nI p) 24 := vp_in_nI (by omega) (by omega)
  have hc : (nI p).toNatClampNeg = p := nI_clamp (by omega)
  refine ⟨hi, fun x1 e1 => ⟨hi, fun x2 e2 => fun x3 e3 => ?_⟩⟩
  rw [hc] at e1 e2
  rw [nI_1] at e3
  have e1' := e1.trans eo
  have e2' := e2.trans ec
  clear e1 e2
  subst e1' e2' e3
  refine br_f (by decide) (br_f (by decide) (br_f (by decide) (br_f (by decide) ?_)))
  unfold wpY_two
  exact (fg_ytake _ _ _ _ _ _ _ _ _ _ (m + 1) (by omega) (fg_ytake _ _ _ _ _ _ _ _ _ _ (m) (by omega) (br_f (by decide) (br_f (by decide) (br_f (by decide) (br_t rfl (fg_yput _ _ _ _ _ _ _ _ _ _ (m) (by omega) _ (fg_yput _ _ _ _ _ _ _ _ _ _ (m + 1) (by omega) _ K))))))))
theorem fg_yo7 (post : SY → Prop) (C st F : Int32) (ops cs cells b stk : Nat → Int32) (m p : Nat) (hp : p < 24) (eo : ops p = 7) (hm : m + 2 < 8) (c : Int32) (ec : cs p = c) (K : post (C, st, F, nI (p + 1), nI (m + 1 + 1 + 1), ops, cs, cells, b, (upd (upd (upd stk m (stk m)) (m + 1) (stk (m + 1))) (m + 1 + 1) (stk m)))) : wpY_carryOut post (C, st, F, nI p, nI (m + 1 + 1), ops, cs, cells, b, stk) := by
  have hi : vp_in (nI p) 24 := vp_in_nI (by omega) (by omega)
  have hc : (nI p).toNatClampNeg = p := nI_clamp (by omega)
  refine ⟨hi, fun x1 e1 => ⟨hi, fun x2 e2 => fun x3 e3 => ?_⟩⟩
  rw [hc] at e1 e2
  rw [nI_1] at e3
  have e1' := e1.trans eo
  have e2' := e2.trans ec
  clear e1 e2
  subst e1' e2' e3
  refine br_f (by decide) (br_f (by decide) (br_f (by decide) (br_f (by decide) ?_)))
  unfold wpY_two
  exact (fg_ytake _ _ _ _ _ _ _ _ _ _ (m + 1) (by omega) (fg_ytake _ _ _ _ _ _ _ _ _ _ (m) (by omega) (br_f (by decide) (br_f (by decide) (br_f (by decide) (br_f (by decide) (fg_yput _ _ _ _ _ _ _ _ _ _ (m) (by omega) _ (fg_yput _ _ _ _ _ _ _ _ _ _ (m + 1) (by omega) _ (fg_yput _ _ _ _ _ _ _ _ _ _ (m + 1 + 1) (by omega) _ K)))))))))
theorem fg_yo8 (post : SY → Prop) (C st F : Int32) (ops cs cells b stk : Nat → Int32) (m p : Nat) (hp : p < 24) (eo : ops p = 8) (hm : m ≤ 8) (c : Int32) (ec : cs p = c) (K : post (C, st, F, c, nI (m), ops, cs, cells, b, stk)) : wpY_carryOut post (C, st, F, nI p, nI (m), ops, cs, cells, b, stk) := by
  have hi : vp_in (nI p) 24 := vp_in_nI (by omega) (by omega)
  have hc : (nI p).toNatClampNeg = p := nI_clamp (by omega)
  refine ⟨hi, fun x1 e1 => ⟨hi, fun x2 e2 => fun x3 e3 => ?_⟩⟩
  rw [hc] at e1 e2
  rw [nI_1] at e3
  have e1' := e1.trans eo
  have e2' := e2.trans ec
  clear e1 e2
  subst e1' e2' e3
  refine br_f (by decide) (br_f (by decide) (br_f (by decide) (br_t (by decide) (br_t rfl K))))
theorem fg_yo9 (post : SY → Prop) (C st F : Int32) (ops cs cells b stk : Nat → Int32) (m p : Nat) (hp : p < 24) (eo : ops p = 9) (hm : m < 8) (c : Int32) (ec : cs p = c) (K0 : stk m = 0 → post (C, st, F, c, nI (m), ops, cs, cells, b, stk)) (K1 : ¬ stk m = 0 → post (C, st, F, nI (p + 1), nI (m), ops, cs, cells, b, stk)) : wpY_carryOut post (C, st, F, nI p, nI (m + 1), ops, cs, cells, b, stk) := by
  have hi : vp_in (nI p) 24 := vp_in_nI (by omega) (by omega)
  have hc : (nI p).toNatClampNeg = p := nI_clamp (by omega)
  refine ⟨hi, fun x1 e1 => ⟨hi, fun x2 e2 => fun x3 e3 => ?_⟩⟩
  rw [hc] at e1 e2
  rw [nI_1] at e3
  have e1' := e1.trans eo
  have e2' := e2.trans ec
  clear e1 e2
  subst e1' e2' e3
  refine br_f (by decide) (br_f (by decide) (br_f (by decide) (br_t (by decide) (br_f (by decide) (br_t rfl (fg_ytake _ _ _ _ _ _ _ _ _ _ (m) (by omega) (br_c K0 K1)))))))
theorem fg_yo10 (post : SY → Prop) (C st F : Int32) (ops cs cells b stk : Nat → Int32) (m p : Nat) (hp : p < 24) (eo : ops p = 10) (hm : m < 8) (c : Int32) (ec : cs p = c) (K0 : stk m ≤ 0 → post (C, st, F, nI (p + 1), nI (m), ops, cs, cells, b, stk)) (K1 : ¬ stk m ≤ 0 → post (C, st, F, c, nI (m), ops, cs, cells, b, stk)) : wpY_carryOut post (C, st, F, nI p, nI (m + 1), ops, cs, cells, b, stk) := by
  have hi : vp_in (nI p) 24 := vp_in_nI (by omega) (by omega)
  have hc : (nI p).toNatClampNeg = p := nI_clamp (by omega)
  refine ⟨hi, fun x1 e1 => ⟨hi, fun x2 e2 => fun x3 e3 => ?_⟩⟩
  rw [hc] at e1 e2
  rw [nI_1] at e3
  have e1' := e1.trans eo
  have e2' := e2.trans ec
  clear e1 e2
  subst e1' e2' e3
  refine br_f (by decide) (br_f (by decide) (br_f (by decide) (br_t (by decide) (br_f (by decide) (br_f (by decide) (br_t rfl (fg_ytake _ _ _ _ _ _ _ _ _ _ (m) (by omega) (br_c K0 K1))))))))
theorem fg_yo11 (post : SY → Prop) (C st F : Int32) (ops cs cells b stk : Nat → Int32) (m p : Nat) (hp : p < 24) (eo : ops p = 11) (hm : m < 8) (c : Int32) (ec : cs p = c) (K : post (C, st, F, nI (p + 1), nI (m + 1), ops, cs, cells, b, (upd stk m (cells (c &&& 3).toNatClampNeg)))) : wpY_carryOut post (C, st, F, nI p, nI (m), ops, cs, cells, b, stk) := by
  have hi : vp_in (nI p) 24 := vp_in_nI (by omega) (by omega)
  have hc : (nI p).toNatClampNeg = p := nI_clamp (by omega)
  refine ⟨hi, fun x1 e1 => ⟨hi, fun x2 e2 => fun x3 e3 => ?_⟩⟩
  rw [hc] at e1 e2
  rw [nI_1] at e3
  have e1' := e1.trans eo
  have e2' := e2.trans ec
  clear e1 e2
  subst e1' e2' e3
  refine br_f (by decide) (br_f (by decide) (br_f (by decide) (br_t (by decide) (br_f (by decide) (br_f (by decide) (br_f (by decide) (br_t rfl ⟨pk_andIn _ 2 (by decide) (by omega), (fg_yput _ _ _ _ _ _ _ _ _ _ (m) (by omega) _ K)⟩)))))))
theorem fg_yo12 (post : SY → Prop) (C st F : Int32) (ops cs cells b stk : Nat → Int32) (m p : Nat) (hp : p < 24) (eo : ops p = 12) (hm : m < 8) (c : Int32) (ec : cs p = c) (K : post (C, st, F, nI (p + 1), nI (m), ops, cs, (upd cells (c &&& 3).toNatClampNeg (stk m)), b, stk)) : wpY_carryOut post (C, st, F, nI p, nI (m + 1), ops, cs, cells, b, stk) := by
  have hi : vp_in (nI p) 24 := vp_in_nI (by omega) (by omega)
  have hc : (nI p).toNatClampNeg = p := nI_clamp (by omega)
  refine ⟨hi, fun x1 e1 => ⟨hi, fun x2 e2 => fun x3 e3 => ?_⟩⟩
  rw [hc] at e1 e2
  rw [nI_1] at e3
  have e1' := e1.trans eo
  have e2' := e2.trans ec
  clear e1 e2
  subst e1' e2' e3
  refine br_f (by decide) (br_f (by decide) (br_f (by decide) (br_t (by decide) (br_f (by decide) (br_f (by decide) (br_f (by decide) (br_f (by decide) (br_t rfl (fg_ytake _ _ _ _ _ _ _ _ _ _ (m) (by omega) ⟨pk_andIn _ 2 (by decide) (by omega), nm_e K⟩)))))))))
theorem fg_yo14 (post : SY → Prop) (C st F : Int32) (ops cs cells b stk : Nat → Int32) (m p : Nat) (hp : p < 24) (eo : ops p = 14) (hm : m ≤ 8) (c : Int32) (ec : cs p = c) (K : post (C, st, F, nI (p + 1), nI (m), ops, cs, cells, b, stk)) : wpY_carryOut post (C, st, F, nI p, nI (m), ops, cs, cells, b, stk) := by
  have hi : vp_in (nI p) 24 := vp_in_nI (by omega) (by omega)
  have hc : (nI p).toNatClampNeg = p := nI_clamp (by omega)
  refine ⟨hi, fun x1 e1 => ⟨hi, fun x2 e2 => fun x3 e3 => ?_⟩⟩
  rw [hc] at e1 e2
  rw [nI_1] at e3
  have e1' := e1.trans eo
  have e2' := e2.trans ec
  clear e1 e2
  subst e1' e2' e3
  refine br_f (by decide) (br_f (by decide) (br_f (by decide) (br_t (by decide) (br_f (by decide) (br_f (by decide) (br_f (by decide) (br_f (by decide) (br_f (by decide) (K)))))))))
/-! one instruction: both sides end alike, at a place whose height is the stack's -/
theorem fg_tg_eq {c : Int32} {n : Nat} (hn : n ≤ 24) (h : fg_tg c < n) : c = nI (fg_tg c) := by
  unfold fg_tg at h ⊢
  by_cases c0 : c < 0
  · rw [if_pos c0] at h
    omega
  · obtain ⟨j, hj, rfl⟩ := nI_of c0
    rw [if_neg c0, nI_clamp hj]
def fg_Both (n : Nat) (ops cs : Nat → Int32) (H : Nat → Option Nat) (p h : Nat) (cells stk : Nat → Int32) : Prop := ∃ (p' h' : Nat) (cells' stk' : Nat → Int32), H p' = some h' ∧ (∀ (post : SX → Prop) (s F st : Int32) (a : Nat → Int32), post (nI n, s, nI h', nI p', F, st, ops, cs, cells', a, stk') → wpX_carryOut post (nI n, s, nI h, nI p, F, st, ops, cs, cells, a, stk) (ops p) (cs p)) ∧ (∀ (post : SY → Prop) (st F : Int32) (b : Nat → Int32), post (nI n, st, F, nI p', nI h', ops, cs, cells', b, stk') → wpY_carryOut post (nI n, st, F, nI p, nI h, ops, cs, cells, b, stk))
theorem fg_b0 {n : Nat} (hn : n ≤ 24) {ops cs : Nat → Int32} {H : Nat → Option Nat} (S : fg_Snd n ops cs H) (p h : Nat) (eh : H p = some h) (eo : ops p = 0) (cells stk : Nat → Int32) : fg_Both n ops cs H p h cells stk := by
  obtain ⟨ok, _, _, S4⟩ := S
  obtain ⟨hp, h8⟩ := ok p h eh
  obtain ⟨f1, f2, f3, f4⟩ := S4 p h eh
  rw [eo] at f1 f2 f3 f4
  have e1 : fg_nd 0 = 0 := by decide +kernel
  have e2 : fg_bh 0 h = h + 1 := by simp [fg_bh]
  rw [e1] at f1
  rw [e2] at f2 f3 f4
  obtain ⟨m, rfl⟩ : ∃ m, m = h := ⟨h, rfl⟩
  have nx := f3 (by decide)
  refine ⟨p + 1, m + 1, cells, (upd stk m (cs p)), nx, fun post s F st a K => ?_, fun post st F b K => ?_⟩
  · rw [eo]
    exact fg_xo0 post (nI n) s F st ops cs cells a stk m p (by omega) (cs p) K
  · exact fg_yo0 post (nI n) st F ops cs cells b stk m p (by omega) eo (by omega) (cs p) rfl K
theorem fg_b1 {n : Nat} (hn : n ≤ 24) {ops cs : Nat → Int32} {H : Nat → Option Nat} (S : fg_Snd n ops cs H) (p h : Nat) (eh : H p = some h) (eo : ops p = 1) (cells stk : Nat → Int32) : fg_Both n ops cs H p h cells stk := by
  obtain ⟨ok, _, _, S4⟩ := S
  obtain ⟨hp, h8⟩ := ok p h eh
  obtain ⟨f1, f2, f3, f4⟩ := S4 p h eh
  rw [eo] at f1 f2 f3 f4
  have e1 : fg_nd 1 = 1 := by decide +kernel
  have e2 : fg_bh 1 h = h - 1 := by simp [fg_bh]
  rw [e1] at f1
  rw [e2] at f2 f3 f4
  obtain ⟨m, rfl⟩ : ∃ m, h = m + 1 := ⟨h - 1, by omega⟩
  have nx := f3 (by decide)
  refine ⟨p + 1, m, cells, stk, nx, fun post s F st a K => ?_, fun post st F b K => ?_⟩
  · rw [eo]
    exact fg_xo1 post (nI n) s F st ops cs cells a stk m p (by omega) (cs p) K
  · exact fg_yo1 post (nI n) st F ops cs cells b stk m p (by omega) eo (by omega) (cs p) rfl K
theorem fg_b2 {n : Nat} (hn : n ≤ 24) {ops cs : Nat → Int32} {H : Nat → Option Nat} (S : fg_Snd n ops cs H) (p h : Nat) (eh : H p = some h) (eo : ops p = 2) (cells stk : Nat → Int32) : fg_Both n ops cs H p h cells stk := by
  obtain ⟨ok, _, _, S4⟩ := S
  obtain ⟨hp, h8⟩ := ok p h eh
  obtain ⟨f1, f2, f3, f4⟩ := S4 p h eh
  rw [eo] at f1 f2 f3 f4
  have e1 : fg_nd 2 = 1 := by decide +kernel
  have e2 : fg_bh 2 h = h + 1 := by simp [fg_bh]
  rw [e1] at f1
  rw [e2] at f2 f3 f4
  obtain ⟨m, rfl⟩ : ∃ m, h = m + 1 := ⟨h - 1, by omega⟩
  have nx := f3 (by decide)
  refine ⟨p + 1, m + 1 + 1, cells, (upd stk (m + 1) (stk m)), nx, fun post s F st a K => ?_, fun post st F b K => ?_⟩
  · rw [eo]
    exact fg_xo2 post (nI n) s F st ops cs cells a stk m p (by omega) (cs p) K
  · exact fg_yo2 post (nI n) st F ops cs cells b stk m p (by omega) eo (by omega) (cs p) rfl K
theorem fg_b3 {n : Nat} (hn : n ≤ 24) {ops cs : Nat → Int32} {H : Nat → Option Nat} (S : fg_Snd n ops cs H) (p h : Nat) (eh : H p = some h) (eo : ops p = 3) (cells stk : Nat → Int32) : fg_Both n ops cs H p h cells stk := by
  obtain ⟨ok, _, _, S4⟩ := S
  obtain ⟨hp, h8⟩ := ok p h eh
  obtain ⟨f1, f2, f3, f4⟩ := S4 p h eh
  rw [eo] at f1 f2 f3 f4
  have e1 : fg_nd 3 = 2 := by decide +kernel
  have e2 : fg_bh 3 h = h - 1 := by simp [fg_bh]
  rw [e1] at f1
  rw [e2] at f2 f3 f4
  obtain ⟨m, rfl⟩ : ∃ m, h = m + 1 + 1 := ⟨h - 2, by omega⟩
  have nx := f3 (by decide)
  refine ⟨p + 1, m + 1, cells, (upd stk m (stk m + stk (m + 1))), nx, fun post s F st a K => ?_, fun post st F b K => ?_⟩
  · rw [eo]
    exact fg_xo3 post (nI n) s F st ops cs cells a stk m p (by omega) (cs p) K
  · exact fg_yo3 post (nI n) st F ops cs cells b stk m p (by omega) eo (by omega) (cs p) rfl K
theorem fg_b4 {n : Nat} (hn : n ≤ 24) {ops cs : Nat → Int32} {H : Nat → Option Nat} (S : fg_Snd n ops cs H) (p h : Nat) (eh : H p = some h) (eo : ops p = 4) (cells stk : Nat → Int32) : fg_Both n ops cs H p h cells stk := by
  obtain ⟨ok, _, _, S4⟩ := S
  obtain ⟨hp, h8⟩ := ok p h eh
  obtain ⟨f1, f2, f3, f4⟩ := S4 p h eh
  rw [eo] at f1 f2 f3 f4
  have e1 : fg_nd 4 = 2 := by decide +kernel
  have e2 : fg_bh 4 h = h - 1 := by simp [fg_bh]
  rw [e1] at f1
  rw [e2] at f2 f3 f4
  obtain ⟨m, rfl⟩ : ∃ m, h = m + 1 + 1 := ⟨h - 2, by omega⟩
  have nx := f3 (by decide)
  refine ⟨p + 1, m + 1, cells, (upd stk m (stk m - stk (m + 1))), nx, fun post s F st a K => ?_, fun post st F b K => ?_⟩
  · rw [eo]
    exact fg_xo4 post (nI n) s F st ops cs cells a stk m p (by omega) (cs p) K
  · exact fg_yo4 post (nI n) st F ops cs cells b stk m p (by omega) eo (by omega) (cs p) rfl K
theorem fg_b5 {n : Nat} (hn : n ≤ 24) {ops cs : Nat → Int32} {H : Nat → Option Nat} (S : fg_Snd n ops cs H) (p h : Nat) (eh : H p = some h) (eo : ops p = 5) (cells stk : Nat → Int32) : fg_Both n ops cs H p h cells stk := by
  obtain ⟨ok, _, _, S4⟩ := S
  obtain ⟨hp, h8⟩ := ok p h eh
  obtain ⟨f1, f2, f3, f4⟩ := S4 p h eh
  rw [eo] at f1 f2 f3 f4
  have e1 : fg_nd 5 = 2 := by decide +kernel
  have e2 : fg_bh 5 h = h - 1 := by simp [fg_bh]
  rw [e1] at f1
  rw [e2] at f2 f3 f4
  obtain ⟨m, rfl⟩ : ∃ m, h = m + 1 + 1 := ⟨h - 2, by omega⟩
  have nx := f3 (by decide)
  refine ⟨p + 1, m + 1, cells, (upd stk m (stk m * stk (m + 1))), nx, fun post s F st a K => ?_, fun post st F b K => ?_⟩
  · rw [eo]
    exact fg_xo5 post (nI n) s F st ops cs cells a stk m p (by omega) (cs p) K
  · exact fg_yo5 post (nI n) st F ops cs cells b stk m p (by omega) eo (by omega) (cs p) rfl K
theorem fg_b6 {n : Nat} (hn : n ≤ 24) {ops cs : Nat → Int32} {H : Nat → Option Nat} (S : fg_Snd n ops cs H) (p h : Nat) (eh : H p = some h) (eo : ops p = 6) (cells stk : Nat → Int32) : fg_Both n ops cs H p h cells stk := by
  obtain ⟨ok, _, _, S4⟩ := S
  obtain ⟨hp, h8⟩ := ok p h eh
  obtain ⟨f1, f2, f3, f4⟩ := S4 p h eh
  rw [eo] at f1 f2 f3 f4
  have e1 : fg_nd 6 = 2 := by decide +kernel
  have e2 : fg_bh 6 h = h := by simp [fg_bh]
  rw [e1] at f1
  rw [e2] at f2 f3 f4
  obtain ⟨m, rfl⟩ : ∃ m, h = m + 1 + 1 := ⟨h - 2, by omega⟩
  have nx := f3 (by decide)
  refine ⟨p + 1, m + 1 + 1, cells, (upd (upd stk m (stk (m + 1))) (m + 1) (stk m)), nx, fun post s F st a K => ?_, fun post st F b K => ?_⟩
  · rw [eo]
    exact fg_xo6 post (nI n) s F st ops cs cells a stk m p (by omega) (cs p) K
  · exact fg_yo6 post (nI n) st F ops cs cells b stk m p (by omega) eo (by omega) (cs p) rfl K
theorem fg_b7 {n : Nat} (hn : n ≤ 24) {ops cs : Nat → Int32} {H : Nat → Option Nat} (S : fg_Snd n ops cs H) (p h : Nat) (eh : H p = some h) (eo : ops p = 7) (cells stk : Nat → Int32) : fg_Both n ops cs H p h cells stk := by
  obtain ⟨ok, _, _, S4⟩ := S
  obtain ⟨hp, h8⟩ := ok p h eh
  obtain ⟨f1, f2, f3, f4⟩ := S4 p h eh
  rw [eo] at f1 f2 f3 f4
  have e1 : fg_nd 7 = 2 := by decide +kernel
  have e2 : fg_bh 7 h = h + 1 := by simp [fg_bh]
  rw [e1] at f1
  rw [e2] at f2 f3 f4
  obtain ⟨m, rfl⟩ : ∃ m, h = m + 1 + 1 := ⟨h - 2, by omega⟩
  have nx := f3 (by decide)
  refine ⟨p + 1, m + 1 + 1 + 1, cells, (upd (upd (upd stk m (stk m)) (m + 1) (stk (m + 1))) (m + 1 + 1) (stk m)), nx, fun post s F st a K => ?_, fun post st F b K => ?_⟩
  · rw [eo]
    exact fg_xo7 post (nI n) s F st ops cs cells a stk m p (by omega) (cs p) K
  · exact fg_yo7 post (nI n) st F ops cs cells b stk m p (by omega) eo (by omega) (cs p) rfl K
theorem fg_b8 {n : Nat} (hn : n ≤ 24) {ops cs : Nat → Int32} {H : Nat → Option Nat} (S : fg_Snd n ops cs H) (p h : Nat) (eh : H p = some h) (eo : ops p = 8) (cells stk : Nat → Int32) : fg_Both n ops cs H p h cells stk := by
  obtain ⟨ok, _, _, S4⟩ := S
  obtain ⟨hp, h8⟩ := ok p h eh
  obtain ⟨f1, f2, f3, f4⟩ := S4 p h eh
  rw [eo] at f1 f2 f3 f4
  have e1 : fg_nd 8 = 0 := by decide +kernel
  have e2 : fg_bh 8 h = h := by simp [fg_bh]
  rw [e1] at f1
  rw [e2] at f2 f3 f4
  obtain ⟨m, rfl⟩ : ∃ m, m = h := ⟨h, rfl⟩
  obtain ⟨t1, t2⟩ := f4 (by decide)
  have t3 := fg_tg_eq hn t1
  refine ⟨fg_tg (cs p), m, cells, stk, t2, fun post s F st a K => ?_, fun post st F b K => ?_⟩
  · rw [← t3] at K
    rw [eo]
    exact fg_xo8 post (nI n) s F st ops cs cells a stk m p (by omega) (cs p) K
  · rw [← t3] at K
    exact fg_yo8 post (nI n) st F ops cs cells b stk m p (by omega) eo (by omega) (cs p) rfl K
theorem fg_b9 {n : Nat} (hn : n ≤ 24) {ops cs : Nat → Int32} {H : Nat → Option Nat} (S : fg_Snd n ops cs H) (p h : Nat) (eh : H p = some h) (eo : ops p = 9) (cells stk : Nat → Int32) : fg_Both n ops cs H p h cells stk := by
  obtain ⟨ok, _, _, S4⟩ := S
  obtain ⟨hp, h8⟩ := ok p h eh
  obtain ⟨f1, f2, f3, f4⟩ := S4 p h eh
  rw [eo] at f1 f2 f3 f4
  have e1 : fg_nd 9 = 1 := by decide +kernel
  have e2 : fg_bh 9 h = h - 1 := by simp [fg_bh]
  rw [e1] at f1
  rw [e2] at f2 f3 f4
  obtain ⟨m, rfl⟩ : ∃ m, h = m + 1 := ⟨h - 1, by omega⟩
  have nx := f3 (by decide)
  obtain ⟨t1, t2⟩ := f4 (by decide)
  have t3 := fg_tg_eq hn t1
  by_cases z : stk m = 0
  · refine ⟨fg_tg (cs p), m, cells, stk, t2, fun post s F st a K => ?_, fun post st F b K => ?_⟩
    · rw [← t3] at K
      rw [eo]
      exact fg_xo9 post (nI n) s F st ops cs cells a stk m p (by omega) (cs p) (fun _ => K) (fun w => absurd z w)
    · rw [← t3] at K
      exact fg_yo9 post (nI n) st F ops cs cells b stk m p (by omega) eo (by omega) (cs p) rfl (fun _ => K) (fun w => absurd z w)
  · refine ⟨p + 1, m, cells, stk, nx, fun post s F st a K => ?_, fun post st F b K => ?_⟩
    · rw [eo]
      exact fg_xo9 post (nI n) s F st ops cs cells a stk m p (by omega) (cs p) (fun w => absurd w z) (fun _ => K)
    · exact fg_yo9 post (nI n) st F ops cs cells b stk m p (by omega) eo (by omega) (cs p) rfl (fun w => absurd w z) (fun _ => K)
theorem fg_b10 {n : Nat} (hn : n ≤ 24) {ops cs : Nat → Int32} {H : Nat → Option Nat} (S : fg_Snd n ops cs H) (p h : Nat) (eh : H p = some h) (eo : ops p = 10) (cells stk : Nat → Int32) : fg_Both n ops cs H p h cells stk := by
  obtain ⟨ok, _, _, S4⟩ := S
  obtain ⟨hp, h8⟩ := ok p h eh
  obtain ⟨f1, f2, f3, f4⟩ := S4 p h eh
  rw [eo] at f1 f2 f3 f4
  have e1 : fg_nd 10 = 1 := by decide +kernel
  have e2 : fg_bh 10 h = h - 1 := by simp [fg_bh]
  rw [e1] at f1
  rw [e2] at f2 f3 f4
  obtain ⟨m, rfl⟩ : ∃ m, h = m + 1 := ⟨h - 1, by omega⟩
  have nx := f3 (by decide)
  obtain ⟨t1, t2⟩ := f4 (by decide)
  have t3 := fg_tg_eq hn t1
  by_cases z : stk m ≤ 0
  · refine ⟨p + 1, m, cells, stk, nx, fun post s F st a K => ?_, fun post st F b K => ?_⟩
    · rw [eo]
      exact fg_xo10 post (nI n) s F st ops cs cells a stk m p (by omega) (cs p) (fun _ => K) (fun w => absurd z w)
    · exact fg_yo10 post (nI n) st F ops cs cells b stk m p (by omega) eo (by omega) (cs p) rfl (fun _ => K) (fun w => absurd z w)
  · refine ⟨fg_tg (cs p), m, cells, stk, t2, fun post s F st a K => ?_, fun post st F b K => ?_⟩
    · rw [← t3] at K
      rw [eo]
      exact fg_xo10 post (nI n) s F st ops cs cells a stk m p (by omega) (cs p) (fun w => absurd w z) (fun _ => K)
    · rw [← t3] at K
      exact fg_yo10 post (nI n) st F ops cs cells b stk m p (by omega) eo (by omega) (cs p) rfl (fun w => absurd w z) (fun _ => K)
theorem fg_b11 {n : Nat} (hn : n ≤ 24) {ops cs : Nat → Int32} {H : Nat → Option Nat} (S : fg_Snd n ops cs H) (p h : Nat) (eh : H p = some h) (eo : ops p = 11) (cells stk : Nat → Int32) : fg_Both n ops cs H p h cells stk := by
  obtain ⟨ok, _, _, S4⟩ := S
  obtain ⟨hp, h8⟩ := ok p h eh
  obtain ⟨f1, f2, f3, f4⟩ := S4 p h eh
  rw [eo] at f1 f2 f3 f4
  have e1 : fg_nd 11 = 0 := by decide +kernel
  have e2 : fg_bh 11 h = h + 1 := by simp [fg_bh]
  rw [e1] at f1
  rw [e2] at f2 f3 f4
  obtain ⟨m, rfl⟩ : ∃ m, m = h := ⟨h, rfl⟩
  have nx := f3 (by decide)
  refine ⟨p + 1, m + 1, cells, (upd stk m (cells (cs p &&& 3).toNatClampNeg)), nx, fun post s F st a K => ?_, fun post st F b K => ?_⟩
  · rw [eo]
    exact fg_xo11 post (nI n) s F st ops cs cells a stk m p (by omega) (cs p) K
  · exact fg_yo11 post (nI n) st F ops cs cells b stk m p (by omega) eo (by omega) (cs p) rfl K
theorem fg_b12 {n : Nat} (hn : n ≤ 24) {ops cs : Nat → Int32} {H : Nat → Option Nat} (S : fg_Snd n ops cs H) (p h : Nat) (eh : H p = some h) (eo : ops p = 12) (cells stk : Nat → Int32) : fg_Both n ops cs H p h cells stk := by
  obtain ⟨ok, _, _, S4⟩ := S
  obtain ⟨hp, h8⟩ := ok p h eh
  obtain ⟨f1, f2, f3, f4⟩ := S4 p h eh
  rw [eo] at f1 f2 f3 f4
  have e1 : fg_nd 12 = 1 := by decide +kernel
  have e2 : fg_bh 12 h = h - 1 := by simp [fg_bh]
  rw [e1] at f1
  rw [e2] at f2 f3 f4
  obtain ⟨m, rfl⟩ : ∃ m, h = m + 1 := ⟨h - 1, by omega⟩
  have nx := f3 (by decide)
  refine ⟨p + 1, m, (upd cells (cs p &&& 3).toNatClampNeg (stk m)), stk, nx, fun post s F st a K => ?_, fun post st F b K => ?_⟩
  · rw [eo]
    exact fg_xo12 post (nI n) s F st ops cs cells a stk m p (by omega) (cs p) K
  · exact fg_yo12 post (nI n) st F ops cs cells b stk m p (by omega) eo (by omega) (cs p) rfl K
theorem fg_b14 {n : Nat} (hn : n ≤ 24) {ops cs : Nat → Int32} {H : Nat → Option Nat} (S : fg_Snd n ops cs H) (p h : Nat) (eh : H p = some h) (eo : ops p = 14) (cells stk : Nat → Int32) : fg_Both n ops cs H p h cells stk := by
  obtain ⟨ok, _, _, S4⟩ := S
  obtain ⟨hp, h8⟩ := ok p h eh
  obtain ⟨f1, f2, f3, f4⟩ := S4 p h eh
  rw [eo] at f1 f2 f3 f4
  have e1 : fg_nd 14 = 0 := by decide +kernel
  have e2 : fg_bh 14 h = h := by simp [fg_bh]
  rw [e1] at f1
  rw [e2] at f2 f3 f4
  obtain ⟨m, rfl⟩ : ∃ m, m = h := ⟨h, rfl⟩
  have nx := f3 (by decide)
  refine ⟨p + 1, m, cells, stk, nx, fun post s F st a K => ?_, fun post st F b K => ?_⟩
  · rw [eo]
    exact fg_xo14 post (nI n) s F st ops cs cells a stk m p (by omega) (cs p) K
  · exact fg_yo14 post (nI n) st F ops cs cells b stk m p (by omega) eo (by omega) (cs p) rfl K
theorem fg_both {n : Nat} (hn : n ≤ 24) {ops cs : Nat → Int32} {H : Nat → Option Nat} (S : fg_Snd n ops cs H) (p h : Nat) (eh : H p = some h) (ho : fg_Op (ops p)) (h13 : ¬ ops p = 13) (cells stk : Nat → Int32) : fg_Both n ops cs H p h cells stk := by
  rcases ho with e | e | e | e | e | e | e | e | e | e | e | e | e | e | e
  · exact fg_b0 hn S p h eh e cells stk
  · exact fg_b1 hn S p h eh e cells stk
  · exact fg_b2 hn S p h eh e cells stk
  · exact fg_b3 hn S p h eh e cells stk
  · exact fg_b4 hn S p h eh e cells stk
  · exact fg_b5 hn S p h eh e cells stk
  · exact fg_b6 hn S p h eh e cells stk
  · exact fg_b7 hn S p h eh e cells stk
  · exact fg_b8 hn S p h eh e cells stk
  · exact fg_b9 hn S p h eh e cells stk
  · exact fg_b10 hn S p h eh e cells stk
  · exact fg_b11 hn S p h eh e cells stk
  · exact fg_b12 hn S p h eh e cells stk
  · exact absurd e h13
  · exact fg_b14 hn S p h eh e cells stk
