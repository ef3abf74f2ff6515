/-! the relation, and what is owed -/
def fg_Run (n : Nat) (ops cs : Nat → Int32) (st F atX atY held : Int32) : Prop := (st = 0 ∧ atX = -4) ∨ (st = 1 ∧ atX = atY) ∨ (st = 2 ∧ atX = atY ∧ ∃ (H : Nat → Option Nat) (p h f : Nat), fg_it n ops cs 24 = some H ∧ H p = some h ∧ atY = nI p ∧ held = nI h ∧ f ≤ 2000 ∧ F = nI f)
def i_Rel (k : Nat) (u : SX) (v : SY) : Prop := ∃ (n : Nat) (s held atX atY F st : Int32) (ops cs cells a b stk : Nat → Int32), u = (nI n, s, held, atX, F, st, ops, cs, cells, a, stk) ∧ v = (nI n, st, F, atY, held, ops, cs, cells, b, stk) ∧ n ≤ 24 ∧ (∀ p, fg_Op (ops p)) ∧ fg_XR n (fg_it n ops cs 24) s a ∧ (∃ h : Nat, h ≤ 8 ∧ held = nI h) ∧ fg_Run n ops cs st F atX atY held
theorem fg_mk {k : Nat} {n : Nat} {s held atX atY F st : Int32} {ops cs cells a b stk : Nat → Int32} (hn : n ≤ 24) (hops : ∀ p, fg_Op (ops p)) (hx : fg_XR n (fg_it n ops cs 24) s a) (hh : ∃ h : Nat, h ≤ 8 ∧ held = nI h) (hr : fg_Run n ops cs st F atX atY held) : i_Rel k (nI n, s, held, atX, F, st, ops, cs, cells, a, stk) (nI n, st, F, atY, held, ops, cs, cells, b, stk) := ⟨n, s, held, atX, atY, F, st, ops, cs, cells, a, b, stk, rfl, rfl, hn, hops, hx, hh, hr⟩
theorem fg_xr_eq {n : Nat} {x : Option (Nat → Option Nat)} {s r : Int32} {a b : Nat → Int32} (h1 : fg_XR n x s a) (h2 : fg_XR n x r b) : r = s := by
  rcases h1 with ⟨e1, rfl⟩ | ⟨H, e1, rfl, _, _⟩
  · rcases h2 with ⟨_, rfl⟩ | ⟨H', e2, _, _, _⟩
    · rfl
    · rw [e1] at e2
      cases e2
  · rcases h2 with ⟨e2, _⟩ | ⟨H', _, rfl, _, _⟩
    · rw [e1] at e2
      cases e2
    · rfl
theorem i_up {k : Nat} {u : SX} {v : SY} (h : i_Rel k u v) : i_Rel (k + 3) u v := h
theorem i_vc0 : wpX_init (fun u => wpY_init (fun v => i_Rel 0 u v)) := by
  unfold wpX_init wpX_dropProgram
  refine fg_xcheck (n := 0) _ (by omega) _ _ _ _ _ _ _ _ _ _ (fun _ => Or.inl rfl) ?_
  intro s' a' hx
  exact fg_mk (k := 0) (n := 0) (by omega) (fun _ => Or.inl rfl) hx ⟨0, by omega, rfl⟩ (Or.inl ⟨rfl, rfl⟩)
theorem i_vc_emit {k : Nat} {u : SX} {v : SY} (I : i_Rel k u v) (hk : k + 3 ≤ 1536) (v1 : Int32) (v2 : Int32) : wpX_emit (fun r u' => wpY_emit (fun r' v' => r' = r ∧ i_Rel (k + 3) u' v') v v1 v2) u v1 v2 := by
  obtain ⟨n, s, held, atX, atY, F, st, ops, cs, cells, a, b, stk, rfl, rfl, hn, hops, hx, hh, hr⟩ := I
  by_cases h0 : v1 < 0
  · exact br_t h0 (br_t h0 ⟨rfl, fg_mk hn hops hx hh hr⟩)
  by_cases h14 : v1 ≤ 14
  · have ho := fg_op_of h0 h14
    by_cases h24 : n < 24
    · have hi : vp_in (nI n) 24 := vp_in_nI h24 (by omega)
      have hc : (nI n).toNatClampNeg = n := nI_clamp (by omega)
      refine br_f h0 (br_t h14 (br_t (nI_lt (b := 24) h24 (by omega)) ⟨hi, fun o' eo => ⟨hi, fun c' ec => ?_⟩⟩))
      intro z ez
      rw [hc] at eo ec
      rw [nI_1] at ez
      subst ez
      have hops' : ∀ p, fg_Op (o' p) := by
        intro p
        rw [eo]
        by_cases c : p = n
        · rw [c, pk_us]
          exact ho
        · rw [pk_un c]
          exact hops p
      refine fg_xcheck (n := n + 1) _ (by omega) _ _ _ _ _ _ _ _ _ _ hops' ?_
      intro s' a' hx'
      refine br_f h0 (br_t h14 (br_f (fun e => absurd ((nI_eq (b := 24) (by omega) (by omega)).mp e) (by omega)) ⟨hi, ?_⟩))
      intro o2 eo2
      refine ⟨hi, fun c2 ec2 => ?_⟩
      intro z ez
      rw [hc] at eo2 ec2
      rw [nI_1] at ez
      subst ez
      rw [← eo] at eo2
      rw [← ec] at ec2
      subst eo2 ec2
      exact ⟨nI_pred n, fg_mk (by omega) hops' hx' ⟨0, by omega, rfl⟩ (Or.inl ⟨rfl, rfl⟩)⟩
    · obtain rfl : n = 24 := by omega
      exact br_f h0 (br_t h14 (br_f (nI_nlt (b := 24) (by omega) (by omega)) (br_f h0 (br_t h14 (br_t rfl ⟨rfl, fg_mk hn hops hx hh hr⟩)))))
  · exact br_f h0 (br_f h14 (br_f h0 (br_f h14 ⟨rfl, fg_mk hn hops hx hh hr⟩)))
theorem i_vc_clear {k : Nat} {u : SX} {v : SY} (I : i_Rel k u v) (hk : k + 3 ≤ 1536) : wpX_clear (fun u' => wpY_clear (fun v' => i_Rel (k + 3) u' v') v) u := by
  obtain ⟨n, s, held, atX, atY, F, st, ops, cs, cells, a, b, stk, rfl, rfl, hn, hops, hx, hh, hr⟩ := I
  unfold wpX_clear wpX_dropProgram
  refine fg_xcheck (n := 0) _ (by omega) _ _ _ _ _ _ _ _ _ _ hops ?_
  intro s' a' hx'
  exact fg_mk (k := k + 3) (n := 0) (by omega) hops hx' ⟨0, by omega, rfl⟩ (Or.inl ⟨rfl, rfl⟩)
theorem i_vc_cell {k : Nat} {u : SX} {v : SY} (I : i_Rel k u v) (hk : k + 3 ≤ 1536) (v1 : Int32) (v2 : Int32) : wpX_cell (fun r u' => wpY_cell (fun r' v' => r' = r ∧ i_Rel (k + 3) u' v') v v1 v2) u v1 v2 := by
  obtain ⟨n, s, held, atX, atY, F, st, ops, cs, cells, a, b, stk, rfl, rfl, hn, hops, hx, hh, hr⟩ := I
  have hi : vp_in (v1 &&& 3) 4 := pk_andIn v1 2 (by decide) (by omega)
  exact ⟨hi, nm_e ⟨hi, nm_e ⟨hi, nm_e ⟨hi, nm_e ⟨rfl, fg_mk hn hops hx hh hr⟩⟩⟩⟩⟩
theorem i_vc_run {k : Nat} {u : SX} {v : SY} (I : i_Rel k u v) (hk : k + 3 ≤ 1536) (v1 : Int32) : wpX_run (fun r u' => wpY_run (fun r' v' => r' = r ∧ i_Rel (k + 3) u' v') v v1) u v1 := by
  obtain ⟨n, s, held, atX, atY, F, st, ops, cs, cells, a, b, stk, rfl, rfl, hn, hops, hx, hh, hr⟩ := I
  have hx0 := hx
  rcases hx with ⟨e, rfl⟩ | ⟨H, e, rfl, ok, ag⟩
  · refine br_t rfl ?_
    unfold wpY_run
    refine fg_ysound _ hn _ _ _ _ _ _ _ _ _ hops ?_
    intro r b' hb
    have er := fg_xr_eq hx0 hb
    subst er
    exact br_t rfl ⟨rfl, fg_mk hn hops hx0 hh hr⟩
  · have S := fg_snd hn e
    obtain ⟨st', p', h', f', cells', stk', hst, eh', hf', EX, EY⟩ := fg_goes hn hops S 0 0 (fg_af v1) cells stk S.2.2.1 (fg_af_le v1)
    refine br_f (by decide) (fg_xaf _ v1 (EX _ 1 st a ?_))
    unfold wpY_run
    refine fg_ysound _ hn _ _ _ _ _ _ _ _ _ hops ?_
    intro r b' hb
    have er := fg_xr_eq hx0 hb
    subst er
    refine br_f (by decide) (fg_yaf _ _ v1 (EY _ st b' ⟨rfl, ?_⟩))
    refine fg_mk hn hops hx0 ⟨h', (ok p' h' eh').2, rfl⟩ ?_
    rcases hst with rfl | rfl
    · exact Or.inr (Or.inl ⟨rfl, rfl⟩)
    · exact Or.inr (Or.inr ⟨rfl, rfl, H, p', h', f', e, eh', rfl, rfl, hf', rfl⟩)
theorem i_vc_refuel {k : Nat} {u : SX} {v : SY} (I : i_Rel k u v) (hk : k + 3 ≤ 1536) (v1 : Int32) : wpX_refuel (fun r u' => wpY_refuel (fun r' v' => r' = r ∧ i_Rel (k + 3) u' v') v v1) u v1 := by
  obtain ⟨n, s, held, atX, atY, F, st, ops, cs, cells, a, b, stk, rfl, rfl, hn, hops, hx, hh, hr⟩ := I
  by_cases h2 : st = 2
  · rcases hr with ⟨z, _⟩ | ⟨z, _⟩ | ⟨_, rfl, H, p, h, f, e, eh, rfl, rfl, hf, rfl⟩
    · rw [h2] at z
      exact absurd z (by decide)
    · rw [h2] at z
      exact absurd z (by decide)
    · have S := fg_snd hn e
      have hg := fg_af_le v1
      have ef : fg_af (nI (f + fg_af v1)) = if f + fg_af v1 ≤ 2000 then f + fg_af v1 else 2000 := fg_af_nI (by omega)
      obtain ⟨st', p', h', f', cells', stk', hst, eh', hf', EX, EY⟩ := fg_goes hn hops S p h (fg_af (nI (f + fg_af v1))) cells stk eh (fg_af_le _)
      refine br_t h2 (fg_xaf _ v1 (nm_r (nI_add f (fg_af v1)) (fg_xaf _ _ (EX _ s st a ?_))))
      refine br_t h2 (fg_yaf _ _ v1 ?_)
      rw [nI_add]
      refine fg_yleast _ _ _ (by omega) ?_
      rw [← ef]
      refine EY _ st b ⟨rfl, ?_⟩
      refine fg_mk hn hops hx ⟨h', (S.1 p' h' eh').2, rfl⟩ ?_
      rcases hst with rfl | rfl
      · exact Or.inr (Or.inl ⟨rfl, rfl⟩)
      · exact Or.inr (Or.inr ⟨rfl, rfl, H, p', h', f', e, eh', rfl, rfl, hf', rfl⟩)
  · exact br_f h2 (br_f h2 ⟨rfl, fg_mk hn hops hx hh hr⟩)
theorem i_vc_sound {k : Nat} {u : SX} {v : SY} (I : i_Rel k u v) (hk : k + 3 ≤ 1536) : wpX_sound (fun r => wpY_sound (fun r' v' => r' = r ∧ i_Rel (k + 3) u v') v) u := by
  obtain ⟨n, s, held, atX, atY, F, st, ops, cs, cells, a, b, stk, rfl, rfl, hn, hops, hx, hh, hr⟩ := I
  refine ⟨?_, fg_ysound _ hn _ _ _ _ _ _ _ _ _ hops ?_⟩
  · rcases hx with ⟨_, rfl⟩ | ⟨_, _, rfl, _⟩ <;> rfl
  · intro r b' hb
    exact ⟨fg_xr_eq hx hb, fg_mk hn hops hx hh hr⟩
theorem i_vc_height {k : Nat} {u : SX} {v : SY} (I : i_Rel k u v) (hk : k + 3 ≤ 1536) (v1 : Int32) : wpX_height (fun r => wpY_height (fun r' v' => r' = r ∧ i_Rel (k + 3) u v') v v1) u v1 := by
  obtain ⟨n, s, held, atX, atY, F, st, ops, cs, cells, a, b, stk, rfl, rfl, hn, hops, hx, hh, hr⟩ := I
  have hx0 := hx
  rcases hx with ⟨e, rfl⟩ | ⟨H, e, rfl, ok, ag⟩
  · refine br_t rfl ?_
    unfold wpY_height
    refine fg_ysound _ hn _ _ _ _ _ _ _ _ _ hops ?_
    intro r b' hb
    have er := fg_xr_eq hx0 hb
    subst er
    exact br_t rfl ⟨rfl, fg_mk hn hops hx0 hh hr⟩
  · have Y : ∀ R : Int32, (∀ b', fg_Ag b' H → ((v1 < 0 → R = -4) ∧ (¬ v1 < 0 → ((nI n ≤ v1 → R = -4) ∧ (¬ nI n ≤ v1 → vp_in v1 24 ∧ ((0 ≤ b' v1.toNatClampNeg → R = b' v1.toNatClampNeg) ∧ (¬ 0 ≤ b' v1.toNatClampNeg → R = -4))))))) → wpY_height (fun r' v' => r' = R ∧ i_Rel (k + 3) (nI n, 1, held, atX, F, st, ops, cs, cells, a, stk) v') (nI n, st, F, atY, held, ops, cs, cells, b, stk) v1 := by
      intro R hR
      unfold wpY_height
      refine fg_ysound _ hn _ _ _ _ _ _ _ _ _ hops ?_
      intro r b' hb
      have er := fg_xr_eq hx0 hb
      subst er
      rcases hb with ⟨e2, _⟩ | ⟨H2, e2, _, _, ag2⟩
      · rw [e] at e2
        cases e2
      · rw [e] at e2
        cases e2
        obtain ⟨q1, q2⟩ := hR b' ag2
        refine br_f (by decide) (br_c (fun z => ⟨(q1 z).symm, fg_mk hn hops hx0 hh hr⟩) (fun z => ?_))
        obtain ⟨q3, q4⟩ := q2 z
        refine br_c (fun z => ⟨(q3 z).symm, fg_mk hn hops hx0 hh hr⟩) (fun z => ?_)
        obtain ⟨q5, q6, q7⟩ := q4 z
        exact ⟨q5, br_c (fun z => ⟨q5, (q6 z).symm, fg_mk hn hops hx0 hh hr⟩) (fun z => ⟨(q7 z).symm, fg_mk hn hops hx0 hh hr⟩)⟩
    refine br_f (by decide) ?_
    by_cases h0 : v1 < 0
    · exact br_t h0 (Y _ (fun b' _ => br_t h0 rfl))
    · obtain ⟨j, hj, rfl⟩ := nI_of h0
      have hc : (nI j).toNatClampNeg = j := nI_clamp hj
      by_cases hjn : j < n
      · have hi : vp_in (nI j) 24 := vp_in_nI (by omega) (by omega)
        have hb := nI_ge hjn (by omega)
        have ea : a (nI j).toNatClampNeg = fg_enc (H j) := by
          rw [hc]
          exact ag j (by omega)
        have eb : ∀ b', fg_Ag b' H → b' (nI j).toNatClampNeg = fg_enc (H j) := by
          intro b' h
          rw [hc]
          exact h j (by omega)
        refine br_f h0 (br_f hb ⟨hi, ?_⟩)
        cases eH : H j with
        | none =>
          rw [eH] at ea eb
          exact br_t ea (Y _ (fun b' h => br_f h0 (br_f hb ⟨hi, br_f (by rw [eb b' h]; decide) rfl⟩)))
        | some m =>
          rw [eH] at ea eb
          have hm := (ok j m eH).2
          refine br_f (by rw [ea]; exact fg_ne1 (fg_big hm)) ⟨hi, Y _ (fun b' h => br_f h0 (br_f hb ⟨hi, br_t (by rw [eb b' h]; exact nI_pos' (fg_big hm)) (ea.trans (eb b' h).symm)⟩))⟩
      · have hb : nI n ≤ nI j := nI_le (by omega) hj
        exact br_f h0 (br_t hb (Y _ (fun b' _ => br_f h0 (br_t hb rfl))))
theorem i_vc_state {k : Nat} {u : SX} {v : SY} (I : i_Rel k u v) (hk : k + 3 ≤ 1536) : wpX_state (fun r => wpY_state (fun r' => r' = r ∧ i_Rel (k + 3) u v) v) u := by
  obtain ⟨n, s, held, atX, atY, F, st, ops, cs, cells, a, b, stk, rfl, rfl, hn, hops, hx, hh, hr⟩ := I
  exact ⟨rfl, fg_mk hn hops hx hh hr⟩
theorem i_vc_fuel {k : Nat} {u : SX} {v : SY} (I : i_Rel k u v) (hk : k + 3 ≤ 1536) : wpX_fuel (fun r => wpY_fuel (fun r' => r' = r ∧ i_Rel (k + 3) u v) v) u := by
  obtain ⟨n, s, held, atX, atY, F, st, ops, cs, cells, a, b, stk, rfl, rfl, hn, hops, hx, hh, hr⟩ := I
  exact ⟨rfl, fg_mk hn hops hx hh hr⟩
theorem i_vc_place {k : Nat} {u : SX} {v : SY} (I : i_Rel k u v) (hk : k + 3 ≤ 1536) : wpX_place (fun r => wpY_place (fun r' => r' = r ∧ i_Rel (k + 3) u v) v) u := by
  obtain ⟨n, s, held, atX, atY, F, st, ops, cs, cells, a, b, stk, rfl, rfl, hn, hops, hx, hh, hr⟩ := I
  have R : i_Rel (k + 3) (nI n, s, held, atX, F, st, ops, cs, cells, a, stk) (nI n, st, F, atY, held, ops, cs, cells, b, stk) := fg_mk hn hops hx hh hr
  rcases hr with ⟨z, e⟩ | ⟨z, e⟩ | ⟨z, e, _⟩
  · exact br_t z ⟨e.symm, R⟩
  · exact br_f (by rw [z]; decide) ⟨e.symm, R⟩
  · exact br_f (by rw [z]; decide) ⟨e.symm, R⟩
theorem i_vc_depth {k : Nat} {u : SX} {v : SY} (I : i_Rel k u v) (hk : k + 3 ≤ 1536) : wpX_depth (fun r => wpY_depth (fun r' => r' = r ∧ i_Rel (k + 3) u v) v) u := by
  obtain ⟨n, s, held, atX, atY, F, st, ops, cs, cells, a, b, stk, rfl, rfl, hn, hops, hx, hh, hr⟩ := I
  exact ⟨rfl, fg_mk hn hops hx hh hr⟩
theorem i_vc_top {k : Nat} {u : SX} {v : SY} (I : i_Rel k u v) (hk : k + 3 ≤ 1536) (v1 : Int32) : wpX_top (fun r => wpY_top (fun r' => r' = r ∧ i_Rel (k + 3) u v) v v1) u v1 := by
  obtain ⟨n, s, held, atX, atY, F, st, ops, cs, cells, a, b, stk, rfl, rfl, hn, hops, hx, hh, hr⟩ := I
  have R : i_Rel (k + 3) (nI n, s, held, atX, F, st, ops, cs, cells, a, stk) (nI n, st, F, atY, held, ops, cs, cells, b, stk) := fg_mk hn hops hx hh hr
  obtain ⟨h, h8, rfl⟩ := hh
  by_cases h0 : v1 < 0
  · exact br_t h0 (br_t h0 ⟨rfl, R⟩)
  · obtain ⟨j, hj, rfl⟩ := nI_of h0
    by_cases hjh : j < h
    · have hl := nI_lt hjh (by omega)
      obtain ⟨m, rfl⟩ : ∃ m, h = m + 1 := ⟨h - 1, by omega⟩
      have e : nI (m + 1) - 1 - nI j = nI (m - j) := by rw [nI_pred, pk_sub (by omega)]
      refine br_f h0 (br_t hl ⟨by rw [e]; exact vp_in_nI (by omega) (by omega), br_f h0 (br_t hl ⟨by rw [e]; exact vp_in_nI (by omega) (by omega), rfl, R⟩)⟩)
    · have hl := nI_nlt (a := j) (b := h) (by omega) hj
      exact br_f h0 (br_f hl (br_f h0 (br_f hl ⟨rfl, R⟩)))
theorem i_vc_get {k : Nat} {u : SX} {v : SY} (I : i_Rel k u v) (hk : k + 3 ≤ 1536) (v1 : Int32) : wpX_get (fun r => wpY_get (fun r' => r' = r ∧ i_Rel (k + 3) u v) v v1) u v1 := by
  obtain ⟨n, s, held, atX, atY, F, st, ops, cs, cells, a, b, stk, rfl, rfl, hn, hops, hx, hh, hr⟩ := I
  have hi : vp_in (v1 &&& 3) 4 := pk_andIn v1 2 (by decide) (by omega)
  exact ⟨hi, hi, rfl, fg_mk hn hops hx hh hr⟩
