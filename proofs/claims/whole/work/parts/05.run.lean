/-! the run -/
theorem fg_yidle (post : Int32 → SY → Prop) (n : Nat) (hn : n ≤ 24) (st F at' high : Int32) (ops cs cells b stk : Nat → Int32) (K : post st (nI n, st, F, at', high, ops, cs, cells, b, stk)) (hidle : ¬ st = 2 ∨ (st = 2 ∧ ∃ p f : Nat, at' = nI p ∧ p < n ∧ F = nI f ∧ f < fg_cost (ops p) (cs p))) : ∀ e j, j + e = 2001 → wY_goOn_7 post (e + 1) (nI j) (nI n) st F at' high ops cs cells b stk := by
  intro e
  induction e with
  | zero =>
    intro j hj
    obtain rfl : j = 2001 := by omega
    exact br_t (nI_lt (a := 2000) (b := 2001) (by omega) (by omega)) K
  | succ e ih =>
    intro j hj
    have N : ∀ y, y = nI j + 1 → wY_goOn_7 post (e + 1) y (nI n) st F at' high ops cs cells b stk := by
      intro y ey
      rw [ey, nI_1]
      exact ih (j + 1) (by omega)
    refine br_f (nI_nlt (a := 2000) (by omega) (by omega)) ?_
    rcases hidle with h2 | ⟨h2, p, f, rfl, hp, rfl, hf⟩
    · exact br_f h2 N
    · have hc := (fg_cost_in (ops p) (cs p)).2
      refine br_t h2 (br_f (nI_pos (by omega)) (br_f (nI_ge hp (by omega)) ?_))
      exact fg_ycost _ _ _ _ _ _ _ _ _ _ _ p (by omega) (br_t (nI_lt hf (by omega)) N)
def fg_Ends (n : Nat) (ops cs : Nat → Int32) (H : Nat → Option Nat) (d j p h f : Nat) (cells stk : Nat → Int32) : Prop := ∃ (st' : Int32) (p' h' f' : Nat) (cells' stk' : Nat → Int32), (st' = 1 ∨ st' = 2) ∧ H p' = some h' ∧ f' ≤ 2000 ∧ (∀ (post : SX → Prop) (s : Int32) (a : Nat → Int32), post (nI n, s, nI h', nI p', nI f', st', ops, cs, cells', a, stk') → wX_carryOn_7 post (d + 1) (nI j) (nI n) s (nI h) (nI p) (nI f) 2 ops cs cells a stk) ∧ (∀ (post : Int32 → SY → Prop) (b : Nat → Int32), post st' (nI n, st', nI f', nI p', nI h', ops, cs, cells', b, stk') → wY_goOn_7 post (d + 2) (nI j) (nI n) 2 (nI f) (nI p) (nI h) ops cs cells b stk)
theorem fg_ends {n : Nat} (hn : n ≤ 24) {ops cs : Nat → Int32} (hops : ∀ p, fg_Op (ops p)) {H : Nat → Option Nat} (S : fg_Snd n ops cs H) : ∀ (d j : Nat), j + d = 2000 → ∀ (p h f : Nat) (cells stk : Nat → Int32), H p = some h → f ≤ d → fg_Ends n ops cs H d j p h f cells stk := by
  intro d
  induction d with
  | zero =>
    intro j hj p h f cells stk eh hf
    obtain rfl : j = 2000 := by omega
    have hc := (fg_cost_in (ops p) (cs p)).1
    refine ⟨2, p, h, f, cells, stk, Or.inr rfl, eh, by omega, ?_, ?_⟩
    · intro post s a K
      exact br_t (nI_le (a := 2000) (b := 2000) (by omega) (by omega)) K
    · intro post b K
      exact fg_yidle post n hn 2 (nI f) (nI p) (nI h) ops cs cells b stk K (Or.inr ⟨rfl, p, f, rfl, (S.1 p h eh).1, rfl, by omega⟩) 1 2000 (by omega)
  | succ d ih =>
    intro j hj p h f cells stk eh hf
    have hp := (S.1 p h eh).1
    have hi : vp_in (nI p) 24 := vp_in_nI (by omega) (by omega)
    have ep : (nI p).toNatClampNeg = p := nI_clamp (by omega)
    have hc := fg_cost_in (ops p) (cs p)
    by_cases c : f < fg_cost (ops p) (cs p)
    · refine ⟨2, p, h, f, cells, stk, Or.inr rfl, eh, by omega, ?_, ?_⟩
      · intro post s a K
        refine br_f (nI_ge (b := 2000) (by omega) (by omega)) (br_f (nI_pos (by omega)) (br_f (nI_ge hp (by omega)) ⟨hi, fun o eo => ⟨hi, fun x ex => ?_⟩⟩))
        rw [ep] at eo ex
        subst eo ex
        exact fg_xcost _ _ _ (br_f (nI_ge c (by omega)) K)
      · intro post b K
        exact fg_yidle post n hn 2 (nI f) (nI p) (nI h) ops cs cells b stk K (Or.inr ⟨rfl, p, f, rfl, hp, rfl, c⟩) (d + 2) j (by omega)
    · have ef : nI f - nI (fg_cost (ops p) (cs p)) = nI (f - fg_cost (ops p) (cs p)) := pk_sub (by omega)
      by_cases h13 : ops p = 13
      · refine ⟨1, p, h, f - fg_cost (ops p) (cs p), cells, stk, Or.inl rfl, eh, by omega, ?_, ?_⟩
        · intro post s a K
          refine br_f (nI_ge (b := 2000) (by omega) (by omega)) (br_f (nI_pos (by omega)) (br_f (nI_ge hp (by omega)) ⟨hi, fun o eo => ⟨hi, fun x ex => ?_⟩⟩))
          rw [ep] at eo ex
          subst eo ex
          exact fg_xcost _ _ _ (br_t (nI_le (by omega) (by omega)) (nm_r ef (br_t h13 K)))
        · intro post b K
          refine br_f (nI_nlt (a := 2000) (by omega) (by omega)) (br_t rfl (br_f (nI_pos (by omega)) (br_f (nI_ge hp (by omega)) ?_)))
          refine fg_ycost _ _ _ _ _ _ _ _ _ _ _ p (by omega) (br_f (nI_nlt (by omega) (by omega)) ?_)
          refine fg_ycost _ _ _ _ _ _ _ _ _ _ _ p (by omega) (nm_r ef ⟨hi, br_t (by rw [ep]; exact h13) ?_⟩)
          intro y ey
          rw [ey, nI_1]
          exact fg_yidle post n hn 1 _ (nI p) (nI h) ops cs cells b stk K (Or.inl (by decide)) (d + 1) (j + 1) (by omega)
      · obtain ⟨p1, h1, cells1, stk1, eh1, BX, BY⟩ := fg_both hn S p h eh (hops p) h13 cells stk
        obtain ⟨st', p', h', f', cells', stk', hst, eh', hf', EX, EY⟩ := ih (j + 1) (by omega) p1 h1 (f - fg_cost (ops p) (cs p)) cells1 stk1 eh1 (by omega)
        refine ⟨st', p', h', f', cells', stk', hst, eh', hf', ?_, ?_⟩
        · intro post s a K
          refine br_f (nI_ge (b := 2000) (by omega) (by omega)) (br_f (nI_pos (by omega)) (br_f (nI_ge hp (by omega)) ⟨hi, fun o eo => ⟨hi, fun x ex => ?_⟩⟩))
          rw [ep] at eo ex
          subst eo ex
          refine fg_xcost _ _ _ (br_t (nI_le (by omega) (by omega)) (nm_r ef (br_f h13 ?_)))
          refine BX _ s _ 2 a ?_
          intro y ey
          rw [ey, nI_1]
          exact EX post s a K
        · intro post b K
          refine br_f (nI_nlt (a := 2000) (by omega) (by omega)) (br_t rfl (br_f (nI_pos (by omega)) (br_f (nI_ge hp (by omega)) ?_)))
          refine fg_ycost _ _ _ _ _ _ _ _ _ _ _ p (by omega) (br_f (nI_nlt (by omega) (by omega)) ?_)
          refine fg_ycost _ _ _ _ _ _ _ _ _ _ _ p (by omega) (nm_r ef ⟨hi, br_f (by rw [ep]; exact h13) ?_⟩)
          refine BY _ 2 _ b ?_
          intro y ey
          rw [ey, nI_1]
          exact EY post b K
theorem fg_goes {n : Nat} (hn : n ≤ 24) {ops cs : Nat → Int32} (hops : ∀ p, fg_Op (ops p)) {H : Nat → Option Nat} (S : fg_Snd n ops cs H) (p h f : Nat) (cells stk : Nat → Int32) (eh : H p = some h) (hf : f ≤ 2000) : ∃ (st' : Int32) (p' h' f' : Nat) (cells' stk' : Nat → Int32), (st' = 1 ∨ st' = 2) ∧ H p' = some h' ∧ f' ≤ 2000 ∧ (∀ (post : SX → Prop) (s st : Int32) (a : Nat → Int32), post (nI n, s, nI h', nI p', nI f', st', ops, cs, cells', a, stk') → wpX_carryOn post (nI n, s, nI h, nI p, nI f, st, ops, cs, cells, a, stk)) ∧ (∀ (post : Int32 → SY → Prop) (st : Int32) (b : Nat → Int32), post st' (nI n, st', nI f', nI p', nI h', ops, cs, cells', b, stk') → wpY_goOn post (nI n, st, nI f, nI p, nI h, ops, cs, cells, b, stk)) := by
  obtain ⟨st', p', h', f', cells', stk', hst, eh', hf', EX, EY⟩ := fg_ends hn hops S 2000 0 (by omega) p h f cells stk eh hf
  exact ⟨st', p', h', f', cells', stk', hst, eh', hf', fun post s st a K => ⟨2001, EX post s a K⟩, fun post st b K => ⟨2002, EY post b K⟩⟩
