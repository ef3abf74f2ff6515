/-! Y: change, needs, come, check, sound -/
theorem fg_ychange (post : Int32 → Prop) (v : SY) {o : Int32} (ho : fg_Op o) (K : post (fg_gr o)) : wpY_change post v o := by
  obtain ⟨v1, v2, v3, v4, v5, v6, v7, v8, v9, v10⟩ := v
  rcases ho with rfl | rfl | rfl | rfl | rfl | rfl | rfl | rfl | rfl | rfl | rfl | rfl | rfl | rfl | rfl <;> simpa [wpY_change, wY_change_38, fg_gr] using K
theorem fg_yneeds (post : Int32 → Prop) (v : SY) {o : Int32} (ho : fg_Op o) (K : post (nI (fg_nd o))) : wpY_needs post v o := by
  have e0 : nI 0 = 0 := nI_0
  have e1 : nI 1 = 1 := by decide +kernel
  have e2 : nI 2 = 2 := by decide +kernel
  obtain ⟨v1, v2, v3, v4, v5, v6, v7, v8, v9, v10⟩ := v
  rcases ho with rfl | rfl | rfl | rfl | rfl | rfl | rfl | rfl | rfl | rfl | rfl | rfl | rfl | rfl | rfl <;> simpa [wpY_needs, fg_nd, e0, e1, e2] using K
theorem fg_ycome (post : Int32 → SY → Prop) {n : Nat} (hn : n ≤ 24) (f_state f_fuel f_at f_high : Int32) (a_ops a_cs a_cells a_heights a_stack : Nat → Int32) (H : Nat → Option Nat) (ok : fg_Ok n H) (ag : fg_Ag a_heights H) (p : Int32) (h : Nat) (hh : h ≤ 8) (K : ∀ r b', fg_XR n (fg_come n (fg_tg p) h H) r b' → post r (nI n, f_state, f_fuel, f_at, f_high, a_ops, a_cs, a_cells, b', a_stack)) : wpY_come post (nI n, f_state, f_fuel, f_at, f_high, a_ops, a_cs, a_cells, a_heights, a_stack) p (nI h) := by
  by_cases h0 : p < 0
  · exact br_t h0 (K 0 a_heights (fg_xr_0 _ (fg_come_out h H (by rw [fg_tg_neg h0]; omega))))
  · obtain ⟨j, hj, rfl⟩ := nI_of h0
    rw [fg_tg_nI hj] at K
    by_cases h1 : j < n
    · have hi : vp_in (nI j) 24 := vp_in_nI (by omega) (by omega)
      have ea : a_heights (nI j).toNatClampNeg = fg_enc (H j) := by
        rw [nI_clamp hj]
        exact ag j (by omega)
      refine br_f h0 (br_t (nI_lt h1 (by omega)) ⟨hi, ?_⟩)
      cases e : H j with
      | none =>
        rw [e] at ea
        refine br_t (by rw [ea]; decide) ⟨hi, fun a' e' => K 1 a' ?_⟩
        rw [nI_clamp hj] at e'
        rw [e']
        exact fg_xr_1 (fg_come_new h h1 e) (fg_come_ok (fg_come_new h h1 e) hh ok) (fg_ag_set j h ag)
      | some k =>
        rw [e] at ea
        have hk := (ok j k e).2
        refine br_f (by rw [ea]; exact nI_pos (fg_big hk)) ⟨hi, ?_⟩
        by_cases c : k = h
        · rw [c] at ea e
          refine br_t ea ⟨hi, fun a' e' => K 1 a' ?_⟩
          rw [nI_clamp hj] at e'
          rw [e']
          exact fg_xr_1 (fg_come_same h1 e) ok (fg_ag_same j h e ag)
        · exact br_f (by rw [ea]; exact fun z => c ((nI_eq (fg_big hk) (fg_big hh)).mp z)) (K 0 a_heights (fg_xr_0 _ (fg_come_clash h1 e c)))
    · exact br_f h0 (br_f (nI_nlt (by omega) hj) (K 0 a_heights (fg_xr_0 _ (fg_come_out h H h1))))
theorem fg_y70 (post : Int32 → SY → Prop) {n : Nat} (hn : n ≤ 24) (f_state f_fuel f_at f_high : Int32) (a_ops a_cs a_cells a_heights a_stack : Nat → Int32) (H : Nat → Option Nat) (ok : fg_Ok n H) (ag : fg_Ag a_heights H) (p b : Nat) (hp : p < 24) (hb : b ≤ 8) (o : Int32) (K : ∀ r b', fg_XR n (fg_nx n o p b H) r b' → post r (nI n, f_state, f_fuel, f_at, f_high, a_ops, a_cs, a_cells, b', a_stack)) : wY_check_70 post (nI p) o (nI b) (nI n) f_state f_fuel f_at f_high a_ops a_cs a_cells a_heights a_stack := by
  by_cases d : o = 8 ∨ o = 13
  · have e : fg_nx n o p b H = some H := if_pos d
    rw [e] at K
    have W := K 1 a_heights (fg_xr_1 rfl ok ag)
    exact br_c (fun _ => W) (fun d8 => br_c (fun _ => W) (fun d13 => absurd d (fun z => by rcases z with z | z <;> contradiction)))
  · have e : fg_nx n o p b H = fg_come n (p + 1) b H := if_neg d
    rw [e] at K
    refine br_f (fun z => d (Or.inl z)) (br_f (fun z => d (Or.inr z)) ?_)
    refine fg_ycome _ hn _ _ _ _ _ _ _ _ _ H ok ag _ b hb ?_
    intro r b' hx
    rw [nI_1, fg_tg_nI (by omega)] at hx
    have hx' := hx
    rcases hx with ⟨_, rfl⟩ | ⟨_, _, rfl, _⟩
    · exact br_t rfl (K 0 b' hx')
    · exact br_f (by decide) (K 1 b' hx')
theorem fg_ycheck (post : Int32 → SY → Prop) {n : Nat} (hn : n ≤ 24) (f_state f_fuel f_at f_high : Int32) (a_ops a_cs a_cells a_heights a_stack : Nat → Int32) (hops : ∀ p, fg_Op (a_ops p)) (H : Nat → Option Nat) (ok : fg_Ok n H) (ag : fg_Ag a_heights H) (p h : Nat) (eh : H p = some h) (K : ∀ r b', fg_XR n (fg_step n a_ops a_cs p H) r b' → post r (nI n, f_state, f_fuel, f_at, f_high, a_ops, a_cs, a_cells, b', a_stack)) : wpY_check post (nI n, f_state, f_fuel, f_at, f_high, a_ops, a_cs, a_cells, a_heights, a_stack) (nI p) := by
  have hp := (ok p h eh).1
  have hh8 := (ok p h eh).2
  have hi : vp_in (nI p) 24 := vp_in_nI (by omega) (by omega)
  have hc : (nI p).toNatClampNeg = p := nI_clamp (by omega)
  have ea : a_heights (nI p).toNatClampNeg = nI h := by
    rw [hc, ag p (by omega), eh]
    rfl
  refine ⟨hi, fun o eo => ⟨hi, ?_⟩⟩
  have eo' : o = a_ops p := by rw [eo, hc]
  have ho : fg_Op o := by rw [eo']; exact hops p
  have hnd := fg_nd2 o
  refine fg_ychange _ _ ho (fun b eb => ⟨hi, fg_yneeds _ _ ho ?_⟩)
  rw [ea] at eb ⊢
  by_cases c1 : fg_nd o ≤ h
  · refine br_f (nI_nlt c1 (by omega)) ?_
    have eb' : b = nI (fg_bh o h) := eb.trans (fg_bh_eq h c1)
    have hbb : fg_bh o h ≤ h + 1 := by
      unfold fg_bh
      split
      · omega
      · split <;> omega
    by_cases c2 : fg_bh o h ≤ 8
    · refine br_t (by rw [eb']; exact nI_le (b := 8) c2 (by decide)) ?_
      have es : fg_step n a_ops a_cs p H = (fg_jp n o (a_cs p) (fg_bh o h) H).bind (fg_nx n o p (fg_bh o h)) := by
        rw [← fg_swap]
        rw [eo'] at c1 c2 ⊢
        exact fg_step_1 eh ⟨c1, c2⟩
      rw [es] at K
      rw [eb']
      by_cases d : o = 8 ∨ o = 9 ∨ o = 10
      · have en : fg_jp n o (a_cs p) (fg_bh o h) H = fg_come n (fg_tg (a_cs p)) (fg_bh o h) H := if_pos d
        rw [en] at K
        refine br_f (by rcases d with rfl | rfl | rfl <;> decide) (br_f (by rcases d with rfl | rfl | rfl <;> decide) ⟨hi, ?_⟩)
        refine fg_ycome _ hn _ _ _ _ _ _ _ _ _ H ok ag _ (fg_bh o h) c2 ?_
        intro r b' hx
        rw [hc] at hx
        rcases hx with ⟨e, rfl⟩ | ⟨H1, e, rfl, ok1, ag1⟩
        · rw [e] at K
          exact br_t rfl (K 0 b' (fg_xr_0 _ rfl))
        · rw [e] at K
          exact br_f (by decide) (fg_y70 post hn _ _ _ _ _ _ _ _ _ H1 ok1 ag1 p (fg_bh o h) (by omega) c2 o K)
      · have en : fg_jp n o (a_cs p) (fg_bh o h) H = some H := if_neg d
        rw [en] at K
        have W := fg_y70 post hn f_state f_fuel f_at f_high a_ops a_cs a_cells a_heights a_stack H ok ag p (fg_bh o h) (by omega) c2 o K
        refine br_c (fun _ => W) (fun z1 => br_c (fun _ => W) (fun z2 => ?_))
        rcases ho with rfl | rfl | rfl | rfl | rfl | rfl | rfl | rfl | rfl | rfl | rfl | rfl | rfl | rfl | rfl <;> first | exact absurd (by decide) z1 | exact absurd (by decide) z2 | exact absurd (by decide) d
    · refine br_f (by rw [eb']; exact nI_ge (a := 8) (by omega) (by omega)) (K 0 _ (fg_xr_0 _ ?_))
      rw [eo'] at c2
      exact fg_step_2 eh (fun z => c2 z.2)
  · refine br_t (nI_lt (by omega) (by omega)) (K 0 _ (fg_xr_0 _ ?_))
    rw [eo'] at c1
    exact fg_step_2 eh (fun z => c1 z.1)
theorem fg_y42 (post : Int32 → SY → Prop) {n : Nat} (hn : n ≤ 24) (f_state f_fuel f_at f_high : Int32) (a_ops a_cs a_cells a_stack : Nat → Int32) (hops : ∀ p, fg_Op (a_ops p)) (J : Int32 → Int32 → Int32 → Int32 → Int32 → Int32 → (Nat → Int32) → (Nat → Int32) → (Nat → Int32) → (Nat → Int32) → (Nat → Int32) → Prop) (k : Nat) (hk : k < 25) (K : ∀ r b', fg_XR n (fg_it n a_ops a_cs 25) r b' → post r (nI n, f_state, f_fuel, f_at, f_high, a_ops, a_cs, a_cells, b', a_stack)) (KJ : ∀ H b', fg_it n a_ops a_cs (k + 1) = some H → fg_Ok n H → fg_Ag b' H → J (nI (k + 1)) (nI n) f_state f_fuel f_at f_high a_ops a_cs a_cells b' a_stack) : ∀ d p, p + d = n → ∀ H b, fg_ps n a_ops a_cs p (fg_it n a_ops a_cs k) = some H → fg_Ok n H → fg_Ag b H → wY_sound_42 post J (nI k) (d + 1) (nI p) (nI n) f_state f_fuel f_at f_high a_ops a_cs a_cells b a_stack := by
  intro d
  induction d with
  | zero =>
    intro p hp H b e ok ag
    obtain rfl : p = n := by omega
    refine br_t (nI_le (by omega) (by omega)) ?_
    intro y ey
    rw [ey, nI_1]
    exact KJ H b e ok ag
  | succ d ih =>
    intro p hp H b e ok ag
    have hi : vp_in (nI p) 24 := vp_in_nI (by omega) (by omega)
    have hc : (nI p).toNatClampNeg = p := nI_clamp (by omega)
    have e' : fg_ps n a_ops a_cs (p + 1) (fg_it n a_ops a_cs k) = fg_step n a_ops a_cs p H := by
      show (fg_ps n a_ops a_cs p (fg_it n a_ops a_cs k)).bind _ = _
      rw [e]
      rfl
    refine br_f (nI_ge (by omega) (by omega)) ⟨hi, ?_⟩
    have ea : b (nI p).toNatClampNeg = fg_enc (H p) := by
      rw [hc]
      exact ag p (by omega)
    cases eH : H p with
    | none =>
      rw [eH] at ea
      refine br_t (by rw [ea]; decide) ?_
      intro y ey
      rw [ey, nI_1]
      exact ih (p + 1) (by omega) H b (e'.trans (fg_step_0 eH)) ok ag
    | some h =>
      rw [eH] at ea
      refine br_f (by rw [ea]; exact nI_pos (fg_big (ok p h eH).2)) ?_
      refine fg_ycheck _ hn _ _ _ _ _ _ _ _ _ hops H ok ag p h eH ?_
      intro r b' hx
      rw [← e'] at hx
      rcases hx with ⟨z, rfl⟩ | ⟨H1, z, rfl, ok1, ag1⟩
      · refine br_t rfl (K 0 b' (fg_xr_0 _ ?_))
        exact fg_it_dead (k := k + 1) (fg_ps_dead z n (by omega)) 25 (by omega)
      · refine br_f (by decide) ?_
        intro y ey
        rw [ey, nI_1]
        exact ih (p + 1) (by omega) H1 b' z ok1 ag1
theorem fg_y34 (post : Int32 → SY → Prop) {n : Nat} (hn : n ≤ 24) (f_state f_fuel f_at f_high : Int32) (a_ops a_cs a_cells a_stack : Nat → Int32) (hops : ∀ p, fg_Op (a_ops p)) (K : ∀ r b', fg_XR n (fg_it n a_ops a_cs 25) r b' → post r (nI n, f_state, f_fuel, f_at, f_high, a_ops, a_cs, a_cells, b', a_stack)) : ∀ d k, k + d = 25 → ∀ H b, fg_it n a_ops a_cs k = some H → fg_Ok n H → fg_Ag b H → wY_sound_34 post (d + 1) (nI k) (nI n) f_state f_fuel f_at f_high a_ops a_cs a_cells b a_stack := by
  intro d
  induction d with
  | zero =>
    intro k hk H b e ok ag
    obtain rfl : k = 25 := by omega
    exact br_t (nI_le (a := 25) (b := 25) (by omega) (by omega)) (K 1 b (fg_xr_1 e ok ag))
  | succ d ih =>
    intro k hk H b e ok ag
    refine br_f (nI_ge (b := 25) (by omega) (by omega)) ⟨n + 1, ?_⟩
    exact fg_y42 post hn f_state f_fuel f_at f_high a_ops a_cs a_cells a_stack hops _ k (by omega) K (fun H' b' e' ok' ag' => ih (k + 1) (by omega) H' b' e' ok' ag') n 0 (by omega) H b e ok ag
theorem fg_y2 (post : Int32 → SY → Prop) {n : Nat} (hn : n ≤ 24) (f_state f_fuel f_at f_high : Int32) (a_ops a_cs a_cells a_stack : Nat → Int32) (hops : ∀ p, fg_Op (a_ops p)) (K : ∀ r b', fg_XR n (fg_it n a_ops a_cs 25) r b' → post r (nI n, f_state, f_fuel, f_at, f_high, a_ops, a_cs, a_cells, b', a_stack)) : ∀ d p, p + d = 24 → ∀ b : Nat → Int32, (∀ q, q < p → b q = -1) → wY_sound_2 post (nI n) f_state f_fuel f_at f_high (d + 1) (nI p) a_ops a_cs a_cells b a_stack := by
  intro d
  induction d with
  | zero =>
    intro p hp b hb
    obtain rfl : p = 24 := by omega
    refine br_t (nI_le (a := 24) (b := 24) (by omega) (by omega)) ?_
    refine fg_ycome _ hn _ _ _ _ _ _ _ _ _ (fun _ => none) (fun p k z => nomatch z) hb 0 0 (by omega) ?_
    intro r b' hx
    rcases hx with ⟨z, rfl⟩ | ⟨H1, z, rfl, ok1, ag1⟩
    · exact br_t rfl (K 0 b' (fg_xr_0 _ (fg_it_dead (k := 0) z 25 (by omega))))
    · exact br_f (by decide) ⟨26, fg_y34 post hn _ _ _ _ _ _ _ _ hops K 25 0 rfl H1 b' z ok1 ag1⟩
  | succ d ih =>
    intro p hp b hb
    have hi : vp_in (nI p) 24 := vp_in_nI (by omega) (by omega)
    have hc : (nI p).toNatClampNeg = p := nI_clamp (by omega)
    refine br_f (nI_ge (b := 24) (by omega) (by omega)) ⟨hi, ?_⟩
    intro b' eb y ey
    rw [hc] at eb
    rw [ey, nI_1]
    refine ih (p + 1) (by omega) b' ?_
    intro q hq
    rw [eb]
    by_cases c : q = p
    · rw [c]
      exact pk_us
    · rw [pk_un c]
      exact hb q (by omega)
theorem fg_ysound (post : Int32 → SY → Prop) {n : Nat} (hn : n ≤ 24) (f_state f_fuel f_at f_high : Int32) (a_ops a_cs a_cells a_heights a_stack : Nat → Int32) (hops : ∀ p, fg_Op (a_ops p)) (K : ∀ r b', fg_XR n (fg_it n a_ops a_cs 24) r b' → post r (nI n, f_state, f_fuel, f_at, f_high, a_ops, a_cs, a_cells, b', a_stack)) : wpY_sound post (nI n, f_state, f_fuel, f_at, f_high, a_ops, a_cs, a_cells, a_heights, a_stack) := by
  rw [← fg_25 hn a_ops a_cs] at K
  exact ⟨25, fg_y2 post hn _ _ _ _ _ _ _ _ hops K 24 0 rfl a_heights (fun q hq => absurd hq (Nat.not_lt_zero q))⟩
