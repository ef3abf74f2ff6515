/-! the heights as the two arrays hold them -/
def fg_enc : Option Nat → Int32
  | none => -1
  | some k => nI k
def fg_Ag (a : Nat → Int32) (H : Nat → Option Nat) : Prop := ∀ p, p < 24 → a p = fg_enc (H p)
def fg_XR (n : Nat) (x : Option (Nat → Option Nat)) (s : Int32) (a : Nat → Int32) : Prop := (x = none ∧ s = 0) ∨ (∃ H, x = some H ∧ s = 1 ∧ fg_Ok n H ∧ fg_Ag a H)
theorem fg_big {k : Nat} (hk : k ≤ 8) : k < 2 ^ 31 := by omega
theorem fg_ne1 {k : Nat} (hk : k < 2 ^ 31) : ¬ nI k = -1 := by
  intro e
  have h := nI_pos hk
  rw [e] at h
  exact h (by decide)
theorem fg_ag_set {a : Nat → Int32} {H : Nat → Option Nat} (p h : Nat) (ag : fg_Ag a H) : fg_Ag (upd a p (nI h)) (fg_set H p h) := by
  intro q hq
  by_cases c : q = p
  · rw [c, pk_us, fg_set_s]
    rfl
  · rw [pk_un c, fg_set_n H h c]
    exact ag q hq
theorem fg_ag_same {a : Nat → Int32} {H : Nat → Option Nat} (p h : Nat) (e : H p = some h) (ag : fg_Ag a H) : fg_Ag (upd a p (nI h)) H := by
  intro q hq
  by_cases c : q = p
  · rw [c, pk_us, e]
    rfl
  · rw [pk_un c]
    exact ag q hq
theorem fg_tg_nI {j : Nat} (hj : j < 2 ^ 31) : fg_tg (nI j) = j := by
  unfold fg_tg
  rw [if_neg (nI_pos hj), nI_clamp hj]
theorem fg_tg_neg {c : Int32} (h : c < 0) : fg_tg c = 24 := if_pos h
theorem fg_xr_0 {n : Nat} {x : Option (Nat → Option Nat)} (a : Nat → Int32) (e : x = none) : fg_XR n x 0 a := Or.inl ⟨e, rfl⟩
theorem fg_xr_1 {n : Nat} {x : Option (Nat → Option Nat)} {H : Nat → Option Nat} {a : Nat → Int32} (e : x = some H) (ok : fg_Ok n H) (ag : fg_Ag a H) : fg_XR n x 1 a := Or.inr ⟨H, e, rfl, ok, ag⟩
/-! X: reach -/
theorem fg_reach0 (post : SX → Prop) {n : Nat} (hn : n ≤ 24) (f_held f_at f_fuelLeft f_runState : Int32) (a_ops a_numbers a_cells a_heights a_stack : Nat → Int32) (p h : Int32) (K : ∀ a', post (nI n, 0, f_held, f_at, f_fuelLeft, f_runState, a_ops, a_numbers, a_cells, a', a_stack)) : wpX_reach post (nI n, 0, f_held, f_at, f_fuelLeft, f_runState, a_ops, a_numbers, a_cells, a_heights, a_stack) p h := by
  by_cases h0 : p < 0
  · exact br_t h0 (K _)
  · obtain ⟨j, hj, rfl⟩ := nI_of h0
    by_cases h1 : j < n
    · have hi : vp_in (nI j) 24 := vp_in_nI (by omega) (by omega)
      exact br_f h0 (br_t (nI_lt h1 (by omega)) ⟨hi, br_c (fun _ => ⟨hi, fun a' _ => K a'⟩) (fun _ => ⟨hi, br_c (fun _ => K _) (fun _ => K _)⟩)⟩)
    · exact br_f h0 (br_f (nI_nlt (by omega) hj) (K _))
theorem fg_reach1 (post : SX → Prop) {n : Nat} (hn : n ≤ 24) (f_held f_at f_fuelLeft f_runState : Int32) (a_ops a_numbers a_cells a_heights a_stack : Nat → Int32) (H : Nat → Option Nat) (ok : fg_Ok n H) (ag : fg_Ag a_heights H) (p : Int32) (h : Nat) (hh : h ≤ 8) (K : ∀ s' a', fg_XR n (fg_come n (fg_tg p) h H) s' a' → post (nI n, s', f_held, f_at, f_fuelLeft, f_runState, a_ops, a_numbers, a_cells, a', a_stack)) : wpX_reach post (nI n, 1, f_held, f_at, f_fuelLeft, f_runState, a_ops, a_numbers, a_cells, a_heights, a_stack) p (nI h) := by
  by_cases h0 : p < 0
  · exact br_t h0 (K 0 a_heights (fg_xr_0 _ (fg_come_out h H (by rw [fg_tg_neg h0]; omega))))
  · obtain ⟨j, hj, rfl⟩ := nI_of h0
    rw [fg_tg_nI hj] at K
    by_cases h1 : j < n
    · have hi : vp_in (nI j) 24 := vp_in_nI (by omega) (by omega)
      have ea : a_heights (nI j).toNatClampNeg = fg_enc (H j) := by
        rw [nI_clamp hj]
        exact ag j (by omega)
      refine br_f h0 (br_t (nI_lt h1 (by omega)) ⟨hi, ?_⟩)
      cases e : H j with
      | none =>
        rw [e] at ea
        refine br_t ea ⟨hi, fun a' e' => K 1 a' ?_⟩
        rw [nI_clamp hj] at e'
        rw [e']
        exact fg_xr_1 (fg_come_new h h1 e) (fg_come_ok (fg_come_new h h1 e) hh ok) (fg_ag_set j h ag)
      | some k =>
        rw [e] at ea
        have hk := (ok j k e).2
        refine br_f (by rw [ea]; exact fg_ne1 (fg_big hk)) ⟨hi, ?_⟩
        by_cases c : k = h
        · rw [c] at ea e
          exact br_t ea (K 1 a_heights (fg_xr_1 (fg_come_same h1 e) ok ag))
        · exact br_f (by rw [ea]; exact fun z => c ((nI_eq (fg_big hk) (fg_big hh)).mp z)) (K 0 a_heights (fg_xr_0 _ (fg_come_clash h1 e c)))
    · exact br_f h0 (br_f (nI_nlt (by omega) hj) (K 0 a_heights (fg_xr_0 _ (fg_come_out h H h1))))
theorem fg_reach (post : SX → Prop) {n : Nat} (hn : n ≤ 24) (f_soundNow f_held f_at f_fuelLeft f_runState : Int32) (a_ops a_numbers a_cells a_heights a_stack : Nat → Int32) (x : Option (Nat → Option Nat)) (hx : fg_XR n x f_soundNow a_heights) (p : Int32) (h : Nat) (hh : h ≤ 8) (K : ∀ s' a', fg_XR n (x.bind (fg_come n (fg_tg p) h)) s' a' → post (nI n, s', f_held, f_at, f_fuelLeft, f_runState, a_ops, a_numbers, a_cells, a', a_stack)) : wpX_reach post (nI n, f_soundNow, f_held, f_at, f_fuelLeft, f_runState, a_ops, a_numbers, a_cells, a_heights, a_stack) p (nI h) := by
  rcases hx with ⟨rfl, rfl⟩ | ⟨H, rfl, rfl, ok, ag⟩
  · exact fg_reach0 post hn _ _ _ _ _ _ _ _ _ p (nI h) (fun a' => K 0 a' (fg_xr_0 _ rfl))
  · exact fg_reach1 post hn _ _ _ _ _ _ _ _ _ H ok ag p h hh K
/-! X: needed, growth -/
theorem fg_xgrowth (post : Int32 → Prop) {o : Int32} (ho : fg_Op o) (K : post (fg_gr o)) : wpX_growth post o := by
  rcases ho with rfl | rfl | rfl | rfl | rfl | rfl | rfl | rfl | rfl | rfl | rfl | rfl | rfl | rfl | rfl <;> simpa [wpX_growth, fg_gr] using K
theorem fg_xneeded (post : Int32 → Prop) {o : Int32} (ho : fg_Op o) (K : post (nI (fg_nd o))) : wpX_needed post o := by
  have e0 : nI 0 = 0 := nI_0
  have e1 : nI 1 = 1 := by decide +kernel
  have e2 : nI 2 = 2 := by decide +kernel
  rcases ho with rfl | rfl | rfl | rfl | rfl | rfl | rfl | rfl | rfl | rfl | rfl | rfl | rfl | rfl | rfl <;> simpa [wpX_needed, fg_nd, e0, e1, e2] using K
/-! X: followFrom -/
theorem fg_w52 (post : SX → Prop) {n : Nat} (hn : n ≤ 24) (f_soundNow f_held f_at f_fuelLeft f_runState : Int32) (a_ops a_numbers a_cells a_heights a_stack : Nat → Int32) (x : Option (Nat → Option Nat)) (hx : fg_XR n x f_soundNow a_heights) (o c : Int32) (b : Nat) (hb : b ≤ 8) (K : ∀ s' a', fg_XR n (x.bind (fg_jp n o c b)) s' a' → post (nI n, s', f_held, f_at, f_fuelLeft, f_runState, a_ops, a_numbers, a_cells, a', a_stack)) : wX_followFrom_52 post o c (nI b) (nI n) f_soundNow f_held f_at f_fuelLeft f_runState a_ops a_numbers a_cells a_heights a_stack := by
  by_cases d : o = 8 ∨ o = 9 ∨ o = 10
  · have e : fg_jp n o c b = fg_come n (fg_tg c) b := funext fun H => if_pos d
    rw [e] at K
    have W : wX_followFrom_70 post c (nI b) (nI n) f_soundNow f_held f_at f_fuelLeft f_runState a_ops a_numbers a_cells a_heights a_stack := fg_reach _ hn _ _ _ _ _ _ _ _ _ _ x hx c b hb K
    exact br_c (fun _ => W) (fun d8 => br_c (fun _ => W) (fun d9 => br_c (fun _ => W) (fun d10 => absurd d (fun z => by rcases z with z | z | z <;> contradiction))))
  · have e : fg_jp n o c b = some := funext fun H => if_neg d
    have ex : x.bind (fg_jp n o c b) = x := by
      rw [e]
      cases x <;> rfl
    rw [ex] at K
    exact br_f (fun z => d (Or.inl z)) (br_f (fun z => d (Or.inr (Or.inl z))) (br_f (fun z => d (Or.inr (Or.inr z))) (K _ _ hx)))
theorem fg_w52z (post : SX → Prop) {n : Nat} (hn : n ≤ 24) (f_held f_at f_fuelLeft f_runState : Int32) (a_ops a_numbers a_cells a_heights a_stack : Nat → Int32) (o c b : Int32) (K : ∀ a', post (nI n, 0, f_held, f_at, f_fuelLeft, f_runState, a_ops, a_numbers, a_cells, a', a_stack)) : wX_followFrom_52 post o c b (nI n) 0 f_held f_at f_fuelLeft f_runState a_ops a_numbers a_cells a_heights a_stack := by
  have W : wX_followFrom_70 post c b (nI n) 0 f_held f_at f_fuelLeft f_runState a_ops a_numbers a_cells a_heights a_stack := fg_reach0 _ hn _ _ _ _ _ _ _ _ _ c b K
  exact br_c (fun _ => W) (fun d8 => br_c (fun _ => W) (fun d9 => br_c (fun _ => W) (fun d10 => K _)))
theorem fg_follow0 (post : SX → Prop) {n : Nat} (hn : n ≤ 24) (f_held f_at f_fuelLeft f_runState : Int32) (a_ops a_numbers a_cells a_heights a_stack : Nat → Int32) (p o c h : Int32) (ho : fg_Op o) (K : ∀ a', post (nI n, 0, f_held, f_at, f_fuelLeft, f_runState, a_ops, a_numbers, a_cells, a', a_stack)) : wpX_followFrom post (nI n, 0, f_held, f_at, f_fuelLeft, f_runState, a_ops, a_numbers, a_cells, a_heights, a_stack) p o c h := by
  unfold wpX_followFrom
  refine fg_xgrowth _ ho (fun b _ => fg_xneeded _ ho ?_)
  refine br_c (fun _ => K _) (fun _ => br_c (fun _ => ?_) (fun _ => K _))
  refine br_c (fun _ => fg_w52z post hn _ _ _ _ _ _ _ _ _ o c b K) (fun _ => br_c (fun _ => fg_w52z post hn _ _ _ _ _ _ _ _ _ o c b K) (fun _ => ?_))
  exact fg_reach0 _ hn _ _ _ _ _ _ _ _ _ _ _ (fun a' => fg_w52z post hn _ _ _ _ _ _ _ _ _ o c b K)
theorem fg_follow1 (post : SX → Prop) {n : Nat} (hn : n ≤ 24) (f_held f_at f_fuelLeft f_runState : Int32) (a_ops a_numbers a_cells a_heights a_stack : Nat → Int32) (H : Nat → Option Nat) (ok : fg_Ok n H) (ag : fg_Ag a_heights H) (p h : Nat) (eh : H p = some h) (P o c hh : Int32) (eP : P = nI p) (eo : o = a_ops p) (ec : c = a_numbers p) (ehh : hh = nI h) (ho : fg_Op o) (K : ∀ s' a', fg_XR n (fg_step n a_ops a_numbers p H) s' a' → post (nI n, s', f_held, f_at, f_fuelLeft, f_runState, a_ops, a_numbers, a_cells, a', a_stack)) : wpX_followFrom post (nI n, 1, f_held, f_at, f_fuelLeft, f_runState, a_ops, a_numbers, a_cells, a_heights, a_stack) P o c hh := by
  subst eP ehh
  have hp := (ok p h eh).1
  have hh8 := (ok p h eh).2
  have hnd := fg_nd2 o
  unfold wpX_followFrom
  refine fg_xgrowth _ ho (fun b eb => fg_xneeded _ ho ?_)
  by_cases c1 : fg_nd o ≤ h
  · refine br_f (nI_nlt c1 (by omega)) ?_
    have eb' : b = nI (fg_bh o h) := eb.trans (fg_bh_eq h c1)
    have hbb : fg_bh o h ≤ h + 1 := by
      unfold fg_bh
      split
      · omega
      · split <;> omega
    by_cases c2 : fg_bh o h ≤ 8
    · refine br_t (by rw [eb']; exact nI_le (b := 8) c2 (by decide)) ?_
      have es : fg_step n a_ops a_numbers p H = (fg_nx n o p (fg_bh o h) H).bind (fg_jp n o c (fg_bh o h)) := by
        rw [eo, ec] at *
        exact fg_step_1 eh ⟨c1, c2⟩
      rw [es] at K
      rw [eb']
      by_cases d : o = 8 ∨ o = 13
      · have en : fg_nx n o p (fg_bh o h) H = some H := if_pos d
        rw [en] at K
        have W := fg_w52 post hn 1 f_held f_at f_fuelLeft f_runState a_ops a_numbers a_cells a_heights a_stack (some H) (fg_xr_1 rfl ok ag) o c (fg_bh o h) c2 K
        exact br_c (fun _ => W) (fun d8 => br_c (fun _ => W) (fun d13 => absurd d (fun z => by rcases z with z | z <;> contradiction)))
      · have en : fg_nx n o p (fg_bh o h) H = fg_come n (p + 1) (fg_bh o h) H := if_neg d
        rw [en] at K
        refine br_f (fun z => d (Or.inl z)) (br_f (fun z => d (Or.inr z)) ?_)
        refine fg_reach1 _ hn _ _ _ _ _ _ _ _ _ H ok ag _ (fg_bh o h) c2 ?_
        intro s' a' hx
        rw [nI_1, fg_tg_nI (by omega)] at hx
        exact fg_w52 post hn s' _ _ _ _ _ _ _ a' _ _ hx o c (fg_bh o h) c2 K
    · refine br_f (by rw [eb']; exact nI_ge (a := 8) (by omega) (by omega)) (K 0 _ (fg_xr_0 _ ?_))
      rw [eo] at c2
      exact fg_step_2 eh (fun z => c2 z.2)
  · refine br_t (nI_lt (by omega) (by omega)) (K 0 _ (fg_xr_0 _ ?_))
    rw [eo] at c1
    exact fg_step_2 eh (fun z => c1 z.1)
/-! X: a pass, all passes, the check -/
theorem fg_xpass (post : SX → Prop) {n : Nat} (hn : n ≤ 24) (f_held f_at f_fuelLeft f_runState : Int32) (a_ops a_numbers a_cells a_stack : Nat → Int32) (hops : ∀ p, fg_Op (a_ops p)) (x : Option (Nat → Option Nat)) (K : ∀ s' a', fg_XR n (fg_ps n a_ops a_numbers 24 x) s' a' → post (nI n, s', f_held, f_at, f_fuelLeft, f_runState, a_ops, a_numbers, a_cells, a', a_stack)) : ∀ d p, p + d = 24 → ∀ s a, fg_XR n (fg_ps n a_ops a_numbers p x) s a → wX_followReached_2 post (d + 1) (nI p) (nI n) s f_held f_at f_fuelLeft f_runState a_ops a_numbers a_cells a a_stack := by
  intro d
  induction d with
  | zero =>
    intro p hp s a hx
    obtain rfl : p = 24 := by omega
    exact br_t (nI_le (a := 24) (b := 24) (by omega) (by omega)) (K s a hx)
  | succ d ih =>
    intro p hp s a hx
    have hi : vp_in (nI p) 24 := vp_in_nI (by omega) (by omega)
    have hc : (nI p).toNatClampNeg = p := nI_clamp (by omega)
    refine br_f (nI_ge (b := 24) (by omega) (by omega)) ⟨hi, ?_⟩
    rcases hx with ⟨e, rfl⟩ | ⟨H, e, rfl, ok, ag⟩
    · have e' : fg_ps n a_ops a_numbers (p + 1) x = none := fg_ps_dead e (p + 1) (by omega)
      have N : ∀ a', ∀ y, y = nI p + 1 → wX_followReached_2 post (d + 1) y (nI n) 0 f_held f_at f_fuelLeft f_runState a_ops a_numbers a_cells a' a_stack := by
        intro a' y ey
        rw [ey, nI_1]
        exact ih (p + 1) (by omega) 0 a' (fg_xr_0 _ e')
      exact br_c (fun _ => N a) (fun _ => ⟨hi, hi, hi, fg_follow0 _ hn _ _ _ _ _ _ _ _ _ _ _ _ _ (hops _) N⟩)
    · have e' : fg_ps n a_ops a_numbers (p + 1) x = fg_step n a_ops a_numbers p H := by
        show (fg_ps n a_ops a_numbers p x).bind _ = _
        rw [e]
        rfl
      have N : ∀ s' a', fg_XR n (fg_step n a_ops a_numbers p H) s' a' → ∀ y, y = nI p + 1 → wX_followReached_2 post (d + 1) y (nI n) s' f_held f_at f_fuelLeft f_runState a_ops a_numbers a_cells a' a_stack := by
        intro s' a' hx y ey
        rw [ey, nI_1]
        rw [← e'] at hx
        exact ih (p + 1) (by omega) s' a' hx
      have ea : a (nI p).toNatClampNeg = fg_enc (H p) := by
        rw [hc]
        exact ag p (by omega)
      cases eH : H p with
      | none =>
        rw [eH] at ea
        exact br_t ea (N 1 a (fg_xr_1 (fg_step_0 eH) ok ag))
      | some h =>
        rw [eH] at ea
        refine br_f (by rw [ea]; exact fg_ne1 (fg_big (ok p h eH).2)) ⟨hi, hi, hi, ?_⟩
        exact fg_follow1 _ hn _ _ _ _ _ _ _ _ _ H ok ag p h eH _ _ _ _ rfl (congrArg a_ops hc) (congrArg a_numbers hc) ea (hops _) N
theorem fg_x34 (post : SX → Prop) {n : Nat} (hn : n ≤ 24) (f_held f_at f_fuelLeft f_runState : Int32) (a_ops a_numbers a_cells a_stack : Nat → Int32) (hops : ∀ p, fg_Op (a_ops p)) (K : ∀ s' a', fg_XR n (fg_it n a_ops a_numbers 24) s' a' → post (nI n, s', f_held, f_at, f_fuelLeft, f_runState, a_ops, a_numbers, a_cells, a', a_stack)) : ∀ d k, k + d = 24 → ∀ s a, fg_XR n (fg_it n a_ops a_numbers k) s a → wX_checkProgram_34 post (d + 1) (nI k) (nI n) s f_held f_at f_fuelLeft f_runState a_ops a_numbers a_cells a a_stack := by
  intro d
  induction d with
  | zero =>
    intro k hk s a hx
    obtain rfl : k = 24 := by omega
    exact br_t (nI_le (a := 24) (b := 24) (by omega) (by omega)) (K s a hx)
  | succ d ih =>
    intro k hk s a hx
    refine br_f (nI_ge (b := 24) (by omega) (by omega)) ⟨25, ?_⟩
    refine fg_xpass _ hn _ _ _ _ _ _ _ _ hops (fg_it n a_ops a_numbers k) ?_ 24 0 rfl s a hx
    intro s' a' hx' y ey
    rw [fg_ps_more (fg_it_ok n a_ops a_numbers k) 24 hn] at hx'
    rw [ey, nI_1]
    exact ih (k + 1) (by omega) s' a' hx'
theorem fg_x2 (post : SX → Prop) {n : Nat} (hn : n ≤ 24) (f_soundNow f_held f_at f_fuelLeft f_runState : Int32) (a_ops a_numbers a_cells a_stack : Nat → Int32) (hops : ∀ p, fg_Op (a_ops p)) (K : ∀ s' a', fg_XR n (fg_it n a_ops a_numbers 24) s' a' → post (nI n, s', f_held, f_at, f_fuelLeft, f_runState, a_ops, a_numbers, a_cells, a', a_stack)) : ∀ d p, p + d = 24 → ∀ a : Nat → Int32, (∀ q, q < p → a q = -1) → wX_checkProgram_2 post (nI n) f_soundNow f_held f_at f_fuelLeft f_runState (d + 1) (nI p) a_ops a_numbers a_cells a a_stack := by
  intro d
  induction d with
  | zero =>
    intro p hp a ha
    obtain rfl : p = 24 := by omega
    refine br_t (nI_le (a := 24) (b := 24) (by omega) (by omega)) ?_
    refine fg_reach1 _ hn _ _ _ _ _ _ _ _ _ (fun _ => none) (fun p k z => nomatch z) ha 0 0 (by omega) ?_
    intro s' a' hx
    exact ⟨25, fg_x34 post hn _ _ _ _ _ _ _ _ hops K 24 0 rfl s' a' hx⟩
  | succ d ih =>
    intro p hp a ha
    have hi : vp_in (nI p) 24 := vp_in_nI (by omega) (by omega)
    have hc : (nI p).toNatClampNeg = p := nI_clamp (by omega)
    refine br_f (nI_ge (b := 24) (by omega) (by omega)) ⟨hi, ?_⟩
    intro a' ea y ey
    rw [hc] at ea
    rw [ey, nI_1]
    refine ih (p + 1) (by omega) a' ?_
    intro q hq
    rw [ea]
    by_cases c : q = p
    · rw [c]
      exact pk_us
    · rw [pk_un c]
      exact ha q (by omega)
theorem fg_xcheck (post : SX → Prop) {n : Nat} (hn : n ≤ 24) (f_soundNow f_held f_at f_fuelLeft f_runState : Int32) (a_ops a_numbers a_cells a_heights a_stack : Nat → Int32) (hops : ∀ p, fg_Op (a_ops p)) (K : ∀ s' a', fg_XR n (fg_it n a_ops a_numbers 24) s' a' → post (nI n, s', f_held, f_at, f_fuelLeft, f_runState, a_ops, a_numbers, a_cells, a', a_stack)) : wpX_checkProgram post (nI n, f_soundNow, f_held, f_at, f_fuelLeft, f_runState, a_ops, a_numbers, a_cells, a_heights, a_stack) :=
  ⟨25, fg_x2 post hn _ _ _ _ _ _ _ _ _ hops K 24 0 rfl a_heights (fun q hq => absurd hq (Nat.not_lt_zero q))⟩
