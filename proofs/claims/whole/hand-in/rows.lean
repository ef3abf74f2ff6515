section
/-! pasted from the kit's rows: pk_us, pk_un, pk_m1, pk_and, pk_andE, pk_andIn, pk_ix -/
theorem pk_us {f : Nat → Int32} {k : Nat} {x : Int32} : upd f k x k = x := if_pos rfl
theorem pk_un {f : Nat → Int32} {k j : Nat} {x : Int32} (h : j ≠ k) : upd f k x j = f j := if_neg h
theorem pk_m1 (n : Nat) : nI (n + 1) + (-1) = nI n := by
  rw [← nI_1, Int32.add_assoc, show (1 : Int32) + (-1) = 0 from rfl, Int32.add_zero]
theorem pk_and (x : Int32) {m : Int32} (k : Nat) (hm : m.toBitVec.toNat = 2 ^ k - 1) : x &&& m = nI (x.toBitVec.toNat % 2 ^ k) := by
  apply Int32.toBitVec_inj.mp
  apply BitVec.eq_of_toNat_eq
  rw [Int32.toBitVec_and, BitVec.toNat_and, hm, Nat.and_two_pow_sub_one_eq_mod]
  show _ = (BitVec.ofNat 32 _).toNat
  rw [BitVec.toNat_ofNat]
  exact (Nat.mod_eq_of_lt (Nat.lt_of_le_of_lt (Nat.mod_le _ _) x.toBitVec.isLt)).symm
theorem pk_andE (x : Int32) {m : Int32} (k : Nat) (hm : m.toBitVec.toNat = 2 ^ k - 1) : ∃ j : Nat, j < 2 ^ k ∧ x &&& m = nI j := ⟨_, Nat.mod_lt _ (Nat.two_pow_pos k), pk_and x k hm⟩
theorem pk_andIn (x : Int32) {m : Int32} (k : Nat) (hm : m.toBitVec.toNat = 2 ^ k - 1) (hk : k ≤ 30) : vp_in (x &&& m) (2 ^ k) := by
  obtain ⟨j, hj, e⟩ := pk_andE x k hm
  rw [e]
  exact vp_in_nI hj (Nat.lt_of_le_of_lt (Nat.pow_le_pow_right (by decide) hk) (by decide))
theorem pk_ix (x : Int32) {n : Nat} (hn : n < 2 ^ 31) : x < 0 ∨ nI n ≤ x ∨ ∃ j : Nat, j < n ∧ x = nI j := by
  by_cases h : x < 0
  · exact Or.inl h
  · obtain ⟨j, hj, rfl⟩ := nI_of h
    by_cases h2 : j < n
    · exact Or.inr (Or.inr ⟨j, h2, rfl⟩)
    · exact Or.inr (Or.inl (nI_le (by omega) hj))
/-! the instructions, needs and heights -/
def fg_Op (o : Int32) : Prop := o = 0 ∨ o = 1 ∨ o = 2 ∨ o = 3 ∨ o = 4 ∨ o = 5 ∨ o = 6 ∨ o = 7 ∨ o = 8 ∨ o = 9 ∨ o = 10 ∨ o = 11 ∨ o = 12 ∨ o = 13 ∨ o = 14
theorem fg_op_of {o : Int32} (h0 : ¬ o < 0) (h1 : o ≤ 14) : fg_Op o := by
  obtain ⟨j, hj, rfl⟩ := nI_of2 (M := 14) (n := 14) (by decide) h0 h1
  have h : j = 0 ∨ j = 1 ∨ j = 2 ∨ j = 3 ∨ j = 4 ∨ j = 5 ∨ j = 6 ∨ j = 7 ∨ j = 8 ∨ j = 9 ∨ j = 10 ∨ j = 11 ∨ j = 12 ∨ j = 13 ∨ j = 14 := by omega
  unfold fg_Op
  rcases h with rfl | rfl | rfl | rfl | rfl | rfl | rfl | rfl | rfl | rfl | rfl | rfl | rfl | rfl | rfl <;> decide +kernel
def fg_nd (o : Int32) : Nat := if o = 1 ∨ o = 2 ∨ o = 9 ∨ o = 10 ∨ o = 12 then 1 else if o = 3 ∨ o = 4 ∨ o = 5 ∨ o = 6 ∨ o = 7 then 2 else 0
def fg_gr (o : Int32) : Int32 := if o = 0 ∨ o = 2 ∨ o = 7 ∨ o = 11 then 1 else if o = 1 ∨ o = 3 ∨ o = 4 ∨ o = 5 ∨ o = 9 ∨ o = 10 ∨ o = 12 then -1 else 0
def fg_bh (o : Int32) (h : Nat) : Nat := if o = 0 ∨ o = 2 ∨ o = 7 ∨ o = 11 then h + 1 else if o = 1 ∨ o = 3 ∨ o = 4 ∨ o = 5 ∨ o = 9 ∨ o = 10 ∨ o = 12 then h - 1 else h
theorem fg_nd2 (o : Int32) : fg_nd o ≤ 2 := by
  unfold fg_nd
  split
  · omega
  · split <;> omega
theorem fg_bh_eq {o : Int32} (h : Nat) (hh : fg_nd o ≤ h) : nI h + fg_gr o = nI (fg_bh o h) := by
  unfold fg_gr fg_bh
  by_cases c1 : o = 0 ∨ o = 2 ∨ o = 7 ∨ o = 11
  · rw [if_pos c1, if_pos c1]
    exact nI_1 h
  · rw [if_neg c1, if_neg c1]
    by_cases c2 : o = 1 ∨ o = 3 ∨ o = 4 ∨ o = 5 ∨ o = 9 ∨ o = 10 ∨ o = 12
    · rw [if_pos c2, if_pos c2]
      have h1 : 1 ≤ fg_nd o := by
        rcases c2 with rfl | rfl | rfl | rfl | rfl | rfl | rfl <;> decide
      obtain ⟨m, rfl⟩ : ∃ m, h = m + 1 := ⟨h - 1, by omega⟩
      exact pk_m1 m
    · rw [if_neg c2, if_neg c2]
      exact Int32.add_zero _
def fg_tg (c : Int32) : Nat := if c < 0 then 24 else c.toNatClampNeg
/-! heights given so far -/
def fg_Ok (n : Nat) (H : Nat → Option Nat) : Prop := ∀ p k, H p = some k → p < n ∧ k ≤ 8
def fg_Le (H H' : Nat → Option Nat) : Prop := ∀ q k, H q = some k → H' q = some k
theorem fg_le_rfl (H : Nat → Option Nat) : fg_Le H H := fun _ _ h => h
theorem fg_le_tr {A B C : Nat → Option Nat} (h1 : fg_Le A B) (h2 : fg_Le B C) : fg_Le A C := fun q k h => h2 q k (h1 q k h)
theorem fg_le_anti {A B : Nat → Option Nat} (h1 : fg_Le A B) (h2 : fg_Le B A) : A = B := by
  funext q
  cases e : A q with
  | none =>
    cases e2 : B q with
    | none => rfl
    | some k => rw [h2 q k e2] at e; exact e.symm
  | some k => exact (h1 q k e).symm
def fg_set (H : Nat → Option Nat) (p h : Nat) : Nat → Option Nat := fun q => if q = p then some h else H q
theorem fg_set_s (H : Nat → Option Nat) (p h : Nat) : fg_set H p h p = some h := if_pos rfl
theorem fg_set_n (H : Nat → Option Nat) {p q : Nat} (h : Nat) (hq : q ≠ p) : fg_set H p h q = H q := if_neg hq
theorem fg_set_comm (H : Nat → Option Nat) {p q : Nat} (h : Nat) : fg_set (fg_set H p h) q h = fg_set (fg_set H q h) p h := by
  funext x
  unfold fg_set
  by_cases h1 : x = p
  · by_cases h2 : x = q
    · simp [h1]
    · simp [h1]
  · simp [h1]
def fg_come (n p h : Nat) (H : Nat → Option Nat) : Option (Nat → Option Nat) :=
  if p < n then (match H p with
    | none => some (fg_set H p h)
    | some k => if k = h then some H else none) else none
theorem fg_come_out {n p : Nat} (h : Nat) (H : Nat → Option Nat) (hp : ¬ p < n) : fg_come n p h H = none := if_neg hp
theorem fg_come_new {n p : Nat} (h : Nat) {H : Nat → Option Nat} (hp : p < n) (e : H p = none) : fg_come n p h H = some (fg_set H p h) := by
  unfold fg_come
  rw [if_pos hp, e]
theorem fg_come_same {n p h : Nat} {H : Nat → Option Nat} (hp : p < n) (e : H p = some h) : fg_come n p h H = some H := by
  unfold fg_come
  rw [if_pos hp, e]
  exact if_pos rfl
theorem fg_come_clash {n p h k : Nat} {H : Nat → Option Nat} (hp : p < n) (e : H p = some k) (hk : k ≠ h) : fg_come n p h H = none := by
  unfold fg_come
  rw [if_pos hp, e]
  exact if_neg hk
theorem fg_come_inv {n p h : Nat} {H H' : Nat → Option Nat} (e : fg_come n p h H = some H') : p < n ∧ H' p = some h ∧ fg_Le H H' ∧ (∀ q k, H' q = some k → H q = some k ∨ (q = p ∧ k = h)) := by
  by_cases hp : p < n
  · cases eP : H p with
    | none =>
      rw [fg_come_new h hp eP] at e
      cases e
      refine ⟨hp, fg_set_s H p h, ?_, ?_⟩
      · intro q k hq
        by_cases c : q = p
        · rw [c, eP] at hq
          cases hq
        · rw [fg_set_n H h c]
          exact hq
      · intro q k hq
        by_cases c : q = p
        · rw [c, fg_set_s] at hq
          cases hq
          exact Or.inr ⟨c, rfl⟩
        · rw [fg_set_n H h c] at hq
          exact Or.inl hq
    | some k =>
      by_cases hk : k = h
      · rw [hk] at eP
        rw [fg_come_same hp eP] at e
        cases e
        exact ⟨hp, eP, fg_le_rfl _, fun q k hq => Or.inl hq⟩
      · rw [fg_come_clash hp eP hk] at e
        cases e
  · rw [fg_come_out h H hp] at e
    cases e
theorem fg_comm (n p q h : Nat) (H : Nat → Option Nat) : (fg_come n p h H).bind (fg_come n q h) = (fg_come n q h H).bind (fg_come n p h) := by
  by_cases hpq : p = q
  · subst hpq
    rfl
  have hqp : q ≠ p := fun e => hpq e.symm
  by_cases hp : p < n
  · by_cases hq : q < n
    · cases eP : H p with
      | none =>
        cases eQ : H q with
        | none =>
          rw [fg_come_new h hp eP, fg_come_new h hq eQ]
          show fg_come n q h (fg_set H p h) = fg_come n p h (fg_set H q h)
          rw [fg_come_new h hq ((fg_set_n H h hqp).trans eQ), fg_come_new h hp ((fg_set_n H h hpq).trans eP), fg_set_comm]
        | some k =>
          by_cases hk : k = h
          · rw [hk] at eQ
            rw [fg_come_new h hp eP, fg_come_same hq eQ]
            show fg_come n q h (fg_set H p h) = fg_come n p h H
            rw [fg_come_same hq ((fg_set_n H h hqp).trans eQ), fg_come_new h hp eP]
          · rw [fg_come_new h hp eP, fg_come_clash hq eQ hk]
            show fg_come n q h (fg_set H p h) = none
            rw [fg_come_clash hq ((fg_set_n H h hqp).trans eQ) hk]
      | some j =>
        by_cases hj : j = h
        · rw [hj] at eP
          rw [fg_come_same hp eP]
          show fg_come n q h H = _
          cases e : fg_come n q h H with
          | none => rfl
          | some H' =>
            show some H' = fg_come n p h H'
            rw [fg_come_same hp ((fg_come_inv e).2.2.1 p h eP)]
        · rw [fg_come_clash hp eP hj]
          show none = _
          cases e : fg_come n q h H with
          | none => rfl
          | some H' =>
            show none = fg_come n p h H'
            rw [fg_come_clash hp ((fg_come_inv e).2.2.1 p j eP) hj]
    · rw [fg_come_out h H hq]
      show _ = none
      cases e : fg_come n p h H with
      | none => rfl
      | some H' => exact fg_come_out h H' hq
  · rw [fg_come_out h H hp]
    show none = _
    cases e : fg_come n q h H with
    | none => rfl
    | some H' => exact (fg_come_out h H' hp).symm
/-! one place, one pass, k passes -/
def fg_nx (n : Nat) (o : Int32) (p b : Nat) (H : Nat → Option Nat) : Option (Nat → Option Nat) := if o = 8 ∨ o = 13 then some H else fg_come n (p + 1) b H
def fg_jp (n : Nat) (o c : Int32) (b : Nat) (H : Nat → Option Nat) : Option (Nat → Option Nat) := if o = 8 ∨ o = 9 ∨ o = 10 then fg_come n (fg_tg c) b H else some H
theorem fg_swap (n : Nat) (o c : Int32) (p b : Nat) (H : Nat → Option Nat) : (fg_nx n o p b H).bind (fg_jp n o c b) = (fg_jp n o c b H).bind (fg_nx n o p b) := by
  by_cases c1 : o = 8 ∨ o = 13
  · have e : ∀ H, fg_nx n o p b H = some H := fun H => if_pos c1
    rw [e, show fg_nx n o p b = some from funext e]
    show fg_jp n o c b H = _
    cases fg_jp n o c b H <;> rfl
  · have e : ∀ H, fg_nx n o p b H = fg_come n (p + 1) b H := fun H => if_neg c1
    rw [show fg_nx n o p b = fg_come n (p + 1) b from funext e]
    by_cases c2 : o = 8 ∨ o = 9 ∨ o = 10
    · have e2 : ∀ H, fg_jp n o c b H = fg_come n (fg_tg c) b H := fun H => if_pos c2
      rw [show fg_jp n o c b = fg_come n (fg_tg c) b from funext e2]
      exact fg_comm n (p + 1) (fg_tg c) b H
    · have e2 : ∀ H, fg_jp n o c b H = some H := fun H => if_neg c2
      rw [show fg_jp n o c b = some from funext e2]
      show _ = fg_come n (p + 1) b H
      cases fg_come n (p + 1) b H <;> rfl
def fg_step (n : Nat) (ops cs : Nat → Int32) (p : Nat) (H : Nat → Option Nat) : Option (Nat → Option Nat) := match H p with
  | none => some H
  | some h => if fg_nd (ops p) ≤ h ∧ fg_bh (ops p) h ≤ 8 then (fg_nx n (ops p) p (fg_bh (ops p) h) H).bind (fg_jp n (ops p) (cs p) (fg_bh (ops p) h)) else none
theorem fg_step_0 {n : Nat} {ops cs : Nat → Int32} {p : Nat} {H : Nat → Option Nat} (e : H p = none) : fg_step n ops cs p H = some H := by
  unfold fg_step
  rw [e]
theorem fg_step_1 {n : Nat} {ops cs : Nat → Int32} {p h : Nat} {H : Nat → Option Nat} (e : H p = some h) (c : fg_nd (ops p) ≤ h ∧ fg_bh (ops p) h ≤ 8) : fg_step n ops cs p H = (fg_nx n (ops p) p (fg_bh (ops p) h) H).bind (fg_jp n (ops p) (cs p) (fg_bh (ops p) h)) := by
  unfold fg_step
  rw [e]
  exact if_pos c
theorem fg_step_2 {n : Nat} {ops cs : Nat → Int32} {p h : Nat} {H : Nat → Option Nat} (e : H p = some h) (c : ¬ (fg_nd (ops p) ≤ h ∧ fg_bh (ops p) h ≤ 8)) : fg_step n ops cs p H = none := by
  unfold fg_step
  rw [e]
  exact if_neg c
theorem fg_come_ok {n p h : Nat} {H H' : Nat → Option Nat} (e : fg_come n p h H = some H') (hh : h ≤ 8) (ok : fg_Ok n H) : fg_Ok n H' := by
  obtain ⟨hp, _, _, hi⟩ := fg_come_inv e
  intro q k hq
  rcases hi q k hq with h1 | ⟨rfl, rfl⟩
  · exact ok q k h1
  · exact ⟨hp, hh⟩
theorem fg_nx_inv {n : Nat} {o : Int32} {p b : Nat} {H H' : Nat → Option Nat} (e : fg_nx n o p b H = some H') : fg_Le H H' ∧ (b ≤ 8 → fg_Ok n H → fg_Ok n H') ∧ (¬ (o = 8 ∨ o = 13) → p + 1 < n ∧ H' (p + 1) = some b) := by
  unfold fg_nx at e
  by_cases c : o = 8 ∨ o = 13
  · rw [if_pos c] at e
    cases e
    exact ⟨fg_le_rfl _, fun _ h => h, fun h => absurd c h⟩
  · rw [if_neg c] at e
    obtain ⟨hp, h1, h2, _⟩ := fg_come_inv e
    exact ⟨h2, fun hb ok => fg_come_ok e hb ok, fun _ => ⟨hp, h1⟩⟩
theorem fg_jp_inv {n : Nat} {o c : Int32} {b : Nat} {H H' : Nat → Option Nat} (e : fg_jp n o c b H = some H') : fg_Le H H' ∧ (b ≤ 8 → fg_Ok n H → fg_Ok n H') ∧ ((o = 8 ∨ o = 9 ∨ o = 10) → fg_tg c < n ∧ H' (fg_tg c) = some b) := by
  unfold fg_jp at e
  by_cases d : o = 8 ∨ o = 9 ∨ o = 10
  · rw [if_pos d] at e
    obtain ⟨hp, h1, h2, _⟩ := fg_come_inv e
    exact ⟨h2, fun hb ok => fg_come_ok e hb ok, fun _ => ⟨hp, h1⟩⟩
  · rw [if_neg d] at e
    cases e
    exact ⟨fg_le_rfl _, fun _ h => h, fun h => absurd h d⟩
theorem fg_step_inv {n : Nat} {ops cs : Nat → Int32} {p : Nat} {H H' : Nat → Option Nat} (e : fg_step n ops cs p H = some H') : fg_Le H H' ∧ (fg_Ok n H → fg_Ok n H') ∧ (∀ h, H p = some h → fg_nd (ops p) ≤ h ∧ fg_bh (ops p) h ≤ 8 ∧ (¬ (ops p = 8 ∨ ops p = 13) → p + 1 < n ∧ H' (p + 1) = some (fg_bh (ops p) h)) ∧ ((ops p = 8 ∨ ops p = 9 ∨ ops p = 10) → fg_tg (cs p) < n ∧ H' (fg_tg (cs p)) = some (fg_bh (ops p) h))) := by
  cases eP : H p with
  | none =>
    rw [fg_step_0 eP] at e
    cases e
    exact ⟨fg_le_rfl _, fun h => h, fun h z => nomatch z⟩
  | some h =>
    by_cases c : fg_nd (ops p) ≤ h ∧ fg_bh (ops p) h ≤ 8
    · rw [fg_step_1 eP c] at e
      cases e1 : fg_nx n (ops p) p (fg_bh (ops p) h) H with
      | none =>
        rw [e1] at e
        cases e
      | some H1 =>
        rw [e1] at e
        have e2 : fg_jp n (ops p) (cs p) (fg_bh (ops p) h) H1 = some H' := e
        obtain ⟨a1, a2, a3⟩ := fg_nx_inv e1
        obtain ⟨b1, b2, b3⟩ := fg_jp_inv e2
        refine ⟨fg_le_tr a1 b1, fun ok => b2 c.2 (a2 c.2 ok), ?_⟩
        intro h' eh
        cases eh
        exact ⟨c.1, c.2, fun z => ⟨(a3 z).1, b1 _ _ (a3 z).2⟩, b3⟩
    · rw [fg_step_2 eP c] at e
      cases e
def fg_ps (n : Nat) (ops cs : Nat → Int32) : Nat → Option (Nat → Option Nat) → Option (Nat → Option Nat)
  | 0, x => x
  | p + 1, x => (fg_ps n ops cs p x).bind (fg_step n ops cs p)
def fg_it (n : Nat) (ops cs : Nat → Int32) : Nat → Option (Nat → Option Nat)
  | 0 => fg_come n 0 0 (fun _ => none)
  | k + 1 => fg_ps n ops cs n (fg_it n ops cs k)
def fg_OkO (n : Nat) (x : Option (Nat → Option Nat)) : Prop := ∀ H, x = some H → fg_Ok n H
theorem fg_bind_inv {α β : Type} {x : Option α} {f : α → Option β} {b : β} (e : x.bind f = some b) : ∃ a, x = some a ∧ f a = some b := by
  cases x with
  | none => cases e
  | some a => exact ⟨a, rfl, e⟩
theorem fg_ps_inv (n : Nat) (ops cs : Nat → Int32) : ∀ (p : Nat) (x : Option (Nat → Option Nat)) (H' : Nat → Option Nat), fg_ps n ops cs p x = some H' → ∃ H, x = some H ∧ fg_Le H H' ∧ (fg_Ok n H → fg_Ok n H') := by
  intro p
  induction p with
  | zero =>
    intro x H' e
    exact ⟨H', e, fg_le_rfl _, fun h => h⟩
  | succ p ih =>
    intro x H' e
    obtain ⟨H1, e1, e2⟩ := fg_bind_inv e
    obtain ⟨H, eH, l, o⟩ := ih x H1 e1
    obtain ⟨l2, o2, _⟩ := fg_step_inv e2
    exact ⟨H, eH, fg_le_tr l l2, fun h => o2 (o h)⟩
theorem fg_ps_none (n : Nat) (ops cs : Nat → Int32) (p : Nat) : fg_ps n ops cs p none = none := by
  induction p with
  | zero => rfl
  | succ p ih =>
    show (fg_ps n ops cs p none).bind _ = none
    rw [ih]
    rfl
theorem fg_ps_dead {n : Nat} {ops cs : Nat → Int32} {p : Nat} {x : Option (Nat → Option Nat)} (e : fg_ps n ops cs p x = none) : ∀ m, p ≤ m → fg_ps n ops cs m x = none := by
  intro m hm
  obtain ⟨d, rfl⟩ : ∃ d, m = p + d := ⟨m - p, by omega⟩
  clear hm
  induction d with
  | zero => exact e
  | succ d ih =>
    show (fg_ps n ops cs (p + d) x).bind _ = none
    rw [ih]
    rfl
theorem fg_it_dead {n : Nat} {ops cs : Nat → Int32} {k : Nat} (e : fg_it n ops cs k = none) : ∀ m, k ≤ m → fg_it n ops cs m = none := by
  intro m hm
  obtain ⟨d, rfl⟩ : ∃ d, m = k + d := ⟨m - k, by omega⟩
  clear hm
  induction d with
  | zero => exact e
  | succ d ih =>
    show fg_ps n ops cs n (fg_it n ops cs (k + d)) = none
    rw [ih]
    exact fg_ps_none n ops cs n
theorem fg_ps_ok {n : Nat} {ops cs : Nat → Int32} (p : Nat) {x : Option (Nat → Option Nat)} (h : fg_OkO n x) : fg_OkO n (fg_ps n ops cs p x) := by
  intro H' e
  obtain ⟨H, eH, _, o⟩ := fg_ps_inv n ops cs p x H' e
  exact o (h H eH)
theorem fg_it_ok (n : Nat) (ops cs : Nat → Int32) (k : Nat) : fg_OkO n (fg_it n ops cs k) := by
  induction k with
  | zero =>
    intro H e
    exact fg_come_ok e (by omega) (fun p k z => nomatch z)
  | succ k ih => exact fg_ps_ok n ih
theorem fg_ps_more {n : Nat} {ops cs : Nat → Int32} {x : Option (Nat → Option Nat)} (h : fg_OkO n x) : ∀ m, n ≤ m → fg_ps n ops cs m x = fg_ps n ops cs n x := by
  intro m hm
  obtain ⟨d, rfl⟩ : ∃ d, m = n + d := ⟨m - n, by omega⟩
  clear hm
  induction d with
  | zero => rfl
  | succ d ih =>
    show (fg_ps n ops cs (n + d) x).bind _ = _
    rw [ih]
    cases e : fg_ps n ops cs n x with
    | none => rfl
    | some H =>
      show fg_step n ops cs (n + d) H = some H
      refine fg_step_0 ?_
      cases e2 : H (n + d) with
      | none => rfl
      | some k =>
        have := (fg_ps_ok n h H e (n + d) k e2).1
        omega
/-! among 24 passes one changes nothing -/
def fg_cn (H : Nat → Option Nat) : Nat → Nat
  | 0 => 0
  | p + 1 => fg_cn H p + (match H p with | none => 0 | some _ => 1)
theorem fg_cn_le (H : Nat → Option Nat) (m : Nat) : fg_cn H m ≤ m := by
  induction m with
  | zero => exact Nat.le_refl _
  | succ m ih =>
    unfold fg_cn
    cases H m <;> simp <;> omega
theorem fg_cn_mono {A B : Nat → Option Nat} (h : fg_Le A B) (m : Nat) : fg_cn A m ≤ fg_cn B m := by
  induction m with
  | zero => exact Nat.le_refl _
  | succ m ih =>
    unfold fg_cn
    cases e : A m with
    | none => simp only; omega
    | some k =>
      rw [h m k e]
      simp only
      omega
theorem fg_cn_lt {A B : Nat → Option Nat} (h : fg_Le A B) {q k : Nat} (hA : A q = none) (hB : B q = some k) : ∀ m, q < m → fg_cn A m < fg_cn B m := by
  intro m
  induction m with
  | zero => intro z; omega
  | succ m ih =>
    intro hq
    unfold fg_cn
    by_cases c : q = m
    · subst c
      rw [hA, hB]
      have := fg_cn_mono h q
      simp only
      omega
    · have i := ih (by omega)
      cases e : A m with
      | none => simp only; omega
      | some k =>
        rw [h m k e]
        simp only
        omega
theorem fg_grow {A B : Nat → Option Nat} {n : Nat} (hn : n ≤ 24) (h : fg_Le A B) (ok : fg_Ok n B) (ne : ¬ B = A) : fg_cn A 24 < fg_cn B 24 := by
  have : ∃ q k, A q = none ∧ B q = some k := by
    refine Classical.byContradiction fun z => ne ?_
    refine fg_le_anti (fun q k hq => ?_) h
    cases e : A q with
    | none => exact absurd ⟨q, k, e, hq⟩ z
    | some j =>
      rw [h q j e] at hq
      exact hq
  obtain ⟨q, k, hA, hB⟩ := this
  exact fg_cn_lt h hA hB 24 (by have := (ok q k hB).1; omega)
theorem fg_pig {n : Nat} (hn : n ≤ 24) (ops cs : Nat → Int32) : ∀ (k : Nat) (H : Nat → Option Nat), fg_it n ops cs k = some H → k + 1 ≤ fg_cn H 24 ∨ fg_ps n ops cs n (some H) = some H := by
  intro k
  induction k with
  | zero =>
    intro H e
    left
    obtain ⟨_, h0, _, _⟩ := fg_come_inv e
    have := fg_cn_lt (A := fun _ => none) (B := H) (q := 0) (k := 0) (fun q k z => nomatch z) rfl h0 24 (by omega)
    omega
  | succ k ih =>
    intro H' e
    have e' : fg_ps n ops cs n (fg_it n ops cs k) = some H' := e
    obtain ⟨H, eH, l, o⟩ := fg_ps_inv n ops cs n _ H' e'
    rw [eH] at e'
    by_cases c : H' = H
    · right
      rw [c] at e' ⊢
      exact e'
    · rcases ih H eH with h1 | h1
      · left
        have := fg_grow hn l (o (fg_it_ok n ops cs k H eH)) c
        omega
      · rw [h1] at e'
        cases e'
        exact absurd rfl c
theorem fg_fix {n : Nat} (hn : n ≤ 24) {ops cs : Nat → Int32} {H : Nat → Option Nat} (e : fg_it n ops cs 24 = some H) : fg_ps n ops cs n (some H) = some H := by
  rcases fg_pig hn ops cs 24 H e with h | h
  · have := fg_cn_le H 24
    omega
  · exact h
theorem fg_25 {n : Nat} (hn : n ≤ 24) (ops cs : Nat → Int32) : fg_it n ops cs 25 = fg_it n ops cs 24 := by
  show fg_ps n ops cs n (fg_it n ops cs 24) = _
  cases e : fg_it n ops cs 24 with
  | none => exact fg_ps_none n ops cs n
  | some H => exact fg_fix hn e
theorem fg_fix_step {n : Nat} {ops cs : Nat → Int32} {H : Nat → Option Nat} : ∀ (m : Nat) (H' : Nat → Option Nat), fg_ps n ops cs m (some H) = some H' → fg_Le H' H → ∀ p, p < m → fg_step n ops cs p H = some H := by
  intro m
  induction m with
  | zero => intro H' _ _ p hp; omega
  | succ m ih =>
    intro H' e l p hp
    obtain ⟨H1, e1, e2⟩ := fg_bind_inv e
    obtain ⟨l2, _, _⟩ := fg_step_inv e2
    have l1 : fg_Le H1 H := fg_le_tr l2 l
    by_cases c : p = m
    · obtain ⟨H0, z, l3, _⟩ := fg_ps_inv n ops cs m _ H1 e1
      cases z
      have q1 : H1 = H := fg_le_anti l1 l3
      rw [q1] at e2 l2
      rw [c, e2, fg_le_anti l l2]
    · exact ih H1 e1 l1 p (by omega)
/-! what the heights of a sound program are -/
def fg_Snd (n : Nat) (ops cs : Nat → Int32) (H : Nat → Option Nat) : Prop := fg_Ok n H ∧ 0 < n ∧ H 0 = some 0 ∧ ∀ p h, H p = some h → fg_nd (ops p) ≤ h ∧ fg_bh (ops p) h ≤ 8 ∧ (¬ (ops p = 8 ∨ ops p = 13) → H (p + 1) = some (fg_bh (ops p) h)) ∧ ((ops p = 8 ∨ ops p = 9 ∨ ops p = 10) → fg_tg (cs p) < n ∧ H (fg_tg (cs p)) = some (fg_bh (ops p) h))
theorem fg_it_le {n : Nat} {ops cs : Nat → Int32} : ∀ (k : Nat) (H : Nat → Option Nat), fg_it n ops cs k = some H → 0 < n ∧ H 0 = some 0 := by
  intro k
  induction k with
  | zero =>
    intro H e
    obtain ⟨h0, h1, _, _⟩ := fg_come_inv e
    exact ⟨h0, h1⟩
  | succ k ih =>
    intro H' e
    obtain ⟨H, eH, l, o⟩ := fg_ps_inv n ops cs n _ H' e
    obtain ⟨h0, h1⟩ := ih H eH
    exact ⟨h0, l _ _ h1⟩
theorem fg_snd {n : Nat} (hn : n ≤ 24) {ops cs : Nat → Int32} {H : Nat → Option Nat} (e : fg_it n ops cs 24 = some H) : fg_Snd n ops cs H := by
  obtain ⟨h0, h1⟩ := fg_it_le 24 H e
  have ok := fg_it_ok n ops cs 24 H e
  refine ⟨ok, h0, h1, ?_⟩
  intro p h hp
  have s := fg_fix_step n H (fg_fix hn e) (fg_le_rfl H) p (ok p h hp).1
  obtain ⟨_, _, f⟩ := fg_step_inv s
  obtain ⟨f1, f2, f3, f4⟩ := f h hp
  exact ⟨f1, f2, fun z => (f3 z).2, f4⟩
end
section
/-! the heights as the two arrays hold them -/
def fg_enc : Option Nat → Int32
  | none => -1
  | some k => nI k
def fg_Ag (a : Nat → Int32) (H : Nat → Option Nat) : Prop := ∀ p, p < 24 → a p = fg_enc (H p)
def fg_XR (n : Nat) (x : Option (Nat → Option Nat)) (s : Int32) (a : Nat → Int32) : Prop := (x = none ∧ s = 0) ∨ (∃ H, x = some H ∧ s = 1 ∧ fg_Ok n H ∧ fg_Ag a H)
theorem fg_big {k : Nat} (hk : k ≤ 8) : k < 2 ^ 31 := by omega
theorem fg_ne1 {k : Nat} (hk : k < 2 ^ 31) : ¬ nI k = -1 := by
  intro e
  have h := nI_pos hk
  rw [e] at h
  exact h (by decide)
theorem fg_ag_set {a : Nat → Int32} {H : Nat → Option Nat} (p h : Nat) (ag : fg_Ag a H) : fg_Ag (upd a p (nI h)) (fg_set H p h) := by
  intro q hq
  by_cases c : q = p
  · rw [c, pk_us, fg_set_s]
    rfl
  · rw [pk_un c, fg_set_n H h c]
    exact ag q hq
theorem fg_ag_same {a : Nat → Int32} {H : Nat → Option Nat} (p h : Nat) (e : H p = some h) (ag : fg_Ag a H) : fg_Ag (upd a p (nI h)) H := by
  intro q hq
  by_cases c : q = p
  · rw [c, pk_us, e]
    rfl
  · rw [pk_un c]
    exact ag q hq
theorem fg_tg_nI {j : Nat} (hj : j < 2 ^ 31) : fg_tg (nI j) = j := by
  unfold fg_tg
  rw [if_neg (nI_pos hj), nI_clamp hj]
theorem fg_tg_neg {c : Int32} (h : c < 0) : fg_tg c = 24 := if_pos h
theorem fg_xr_0 {n : Nat} {x : Option (Nat → Option Nat)} (a : Nat → Int32) (e : x = none) : fg_XR n x 0 a := Or.inl ⟨e, rfl⟩
theorem fg_xr_1 {n : Nat} {x : Option (Nat → Option Nat)} {H : Nat → Option Nat} {a : Nat → Int32} (e : x = some H) (ok : fg_Ok n H) (ag : fg_Ag a H) : fg_XR n x 1 a := Or.inr ⟨H, e, rfl, ok, ag⟩
/-! X: reach -/
theorem fg_reach0 (post : SX → Prop) {n : Nat} (hn : n ≤ 24) (f_held f_at f_fuelLeft f_runState : Int32) (a_ops a_numbers a_cells a_heights a_stack : Nat → Int32) (p h : Int32) (K : ∀ a', post (nI n, 0, f_held, f_at, f_fuelLeft, f_runState, a_ops, a_numbers, a_cells, a', a_stack)) : wpX_reach post (nI n, 0, f_held, f_at, f_fuelLeft, f_runState, a_ops, a_numbers, a_cells, a_heights, a_stack) p h := by
  by_cases h0 : p < 0
  · exact br_t h0 (K _)
  · obtain ⟨j, hj, rfl⟩ := nI_of h0
    by_cases h1 : j < n
    · have hi : vp_in (nI j) 24 := vp_in_nI (by omega) (by omega)
      exact br_f h0 (br_t (nI_lt h1 (by omega)) ⟨hi, br_c (fun _ => ⟨hi, fun a' _ => K a'⟩) (fun _ => ⟨hi, br_c (fun _ => K _) (fun _ => K _)⟩)⟩)
    · exact br_f h0 (br_f (nI_nlt (by omega) hj) (K _))
theorem fg_reach1 (post : SX → Prop) {n : Nat} (hn : n ≤ 24) (f_held f_at f_fuelLeft f_runState : Int32) (a_ops a_numbers a_cells a_heights a_stack : Nat → Int32) (H : Nat → Option Nat) (ok : fg_Ok n H) (ag : fg_Ag a_heights H) (p : Int32) (h : Nat) (hh : h ≤ 8) (K : ∀ s' a', fg_XR n (fg_come n (fg_tg p) h H) s' a' → post (nI n, s', f_held, f_at, f_fuelLeft, f_runState, a_ops, a_numbers, a_cells, a', a_stack)) : wpX_reach post (nI n, 1, f_held, f_at, f_fuelLeft, f_runState, a_ops, a_numbers, a_cells, a_heights, a_stack) p (nI h) := by
  by_cases h0 : p < 0
  · exact br_t h0 (K 0 a_heights (fg_xr_0 _ (fg_come_out h H (by rw [fg_tg_neg h0]; omega))))
  · obtain ⟨j, hj, rfl⟩ := nI_of h0
    rw [fg_tg_nI hj] at K
    by_cases h1 : j < n
    · have hi : vp_in (nI j) 24 := vp_in_nI (by omega) (by omega)
      have ea : a_heights (nI j).toNatClampNeg = fg_enc (H j) := by
        rw [nI_clamp hj]
        exact ag j (by omega)
      refine br_f h0 (br_t (nI_lt h1 (by omega)) ⟨hi, ?_⟩)
      cases e : H j with
      | none =>
        rw [e] at ea
        refine br_t ea ⟨hi, fun a' e' => K 1 a' ?_⟩
        rw [nI_clamp hj] at e'
        rw [e']
        exact fg_xr_1 (fg_come_new h h1 e) (fg_come_ok (fg_come_new h h1 e) hh ok) (fg_ag_set j h ag)
      | some k =>
        rw [e] at ea
        have hk := (ok j k e).2
        refine br_f (by rw [ea]; exact fg_ne1 (fg_big hk)) ⟨hi, ?_⟩
        by_cases c : k = h
        · rw [c] at ea e
          exact br_t ea (K 1 a_heights (fg_xr_1 (fg_come_same h1 e) ok ag))
        · exact br_f (by rw [ea]; exact fun z => c ((nI_eq (fg_big hk) (fg_big hh)).mp z)) (K 0 a_heights (fg_xr_0 _ (fg_come_clash h1 e c)))
    · exact br_f h0 (br_f (nI_nlt (by omega) hj) (K 0 a_heights (fg_xr_0 _ (fg_come_out h H h1))))
theorem fg_reach (post : SX → Prop) {n : Nat} (hn : n ≤ 24) (f_soundNow f_held f_at f_fuelLeft f_runState : Int32) (a_ops a_numbers a_cells a_heights a_stack : Nat → Int32) (x : Option (Nat → Option Nat)) (hx : fg_XR n x f_soundNow a_heights) (p : Int32) (h : Nat) (hh : h ≤ 8) (K : ∀ s' a', fg_XR n (x.bind (fg_come n (fg_tg p) h)) s' a' → post (nI n, s', f_held, f_at, f_fuelLeft, f_runState, a_ops, a_numbers, a_cells, a', a_stack)) : wpX_reach post (nI n, f_soundNow, f_held, f_at, f_fuelLeft, f_runState, a_ops, a_numbers, a_cells, a_heights, a_stack) p (nI h) := by
  rcases hx with ⟨rfl, rfl⟩ | ⟨H, rfl, rfl, ok, ag⟩
  · exact fg_reach0 post hn _ _ _ _ _ _ _ _ _ p (nI h) (fun a' => K 0 a' (fg_xr_0 _ rfl))
  · exact fg_reach1 post hn _ _ _ _ _ _ _ _ _ H ok ag p h hh K
/-! X: needed, growth -/
theorem fg_xgrowth (post : Int32 → Prop) {o : Int32} (ho : fg_Op o) (K : post (fg_gr o)) : wpX_growth post o := by
  rcases ho with rfl | rfl | rfl | rfl | rfl | rfl | rfl | rfl | rfl | rfl | rfl | rfl | rfl | rfl | rfl <;> simpa [wpX_growth, fg_gr] using K
theorem fg_xneeded (post : Int32 → Prop) {o : Int32} (ho : fg_Op o) (K : post (nI (fg_nd o))) : wpX_needed post o := by
  have e0 : nI 0 = 0 := nI_0
  have e1 : nI 1 = 1 := by decide +kernel
  have e2 : nI 2 = 2 := by decide +kernel
  rcases ho with rfl | rfl | rfl | rfl | rfl | rfl | rfl | rfl | rfl | rfl | rfl | rfl | rfl | rfl | rfl <;> simpa [wpX_needed, fg_nd, e0, e1, e2] using K
/-! X: followFrom -/
theorem fg_w52 (post : SX → Prop) {n : Nat} (hn : n ≤ 24) (f_soundNow f_held f_at f_fuelLeft f_runState : Int32) (a_ops a_numbers a_cells a_heights a_stack : Nat → Int32) (x : Option (Nat → Option Nat)) (hx : fg_XR n x f_soundNow a_heights) (o c : Int32) (b : Nat) (hb : b ≤ 8) (K : ∀ s' a', fg_XR n (x.bind (fg_jp n o c b)) s' a' → post (nI n, s', f_held, f_at, f_fuelLeft, f_runState, a_ops, a_numbers, a_cells, a', a_stack)) : wX_followFrom_52 post o c (nI b) (nI n) f_soundNow f_held f_at f_fuelLeft f_runState a_ops a_numbers a_cells a_heights a_stack := by
  by_cases d : o = 8 ∨ o = 9 ∨ o = 10
  · have e : fg_jp n o c b = fg_come n (fg_tg c) b := funext fun H => if_pos d
    rw [e] at K
    have W : wX_followFrom_70 post c (nI b) (nI n) f_soundNow f_held f_at f_fuelLeft f_runState a_ops a_numbers a_cells a_heights a_stack := fg_reach _ hn _ _ _ _ _ _ _ _ _ _ x hx c b hb K
    exact br_c (fun _ => W) (fun d8 => br_c (fun _ => W) (fun d9 => br_c (fun _ => W) (fun d10 => absurd d (fun z => by rcases z with z | z | z <;> contradiction))))
  · have e : fg_jp n o c b = some := funext fun H => if_neg d
    have ex : x.bind (fg_jp n o c b) = x := by
      rw [e]
      cases x <;> rfl
    rw [ex] at K
    exact br_f (fun z => d (Or.inl z)) (br_f (fun z => d (Or.inr (Or.inl z))) (br_f (fun z => d (Or.inr (Or.inr z))) (K _ _ hx)))
theorem fg_w52z (post : SX → Prop) {n : Nat} (hn : n ≤ 24) (f_held f_at f_fuelLeft f_runState : Int32) (a_ops a_numbers a_cells a_heights a_stack : Nat → Int32) (o c b : Int32) (K : ∀ a', post (nI n, 0, f_held, f_at, f_fuelLeft, f_runState, a_ops, a_numbers, a_cells, a', a_stack)) : wX_followFrom_52 post o c b (nI n) 0 f_held f_at f_fuelLeft f_runState a_ops a_numbers a_cells a_heights a_stack := by
  have W : wX_followFrom_70 post c b (nI n) 0 f_held f_at f_fuelLeft f_runState a_ops a_numbers a_cells a_heights a_stack := fg_reach0 _ hn _ _ _ _ _ _ _ _ _ c b K
  exact br_c (fun _ => W) (fun d8 => br_c (fun _ => W) (fun d9 => br_c (fun _ => W) (fun d10 => K _)))
theorem fg_follow0 (post : SX → Prop) {n : Nat} (hn : n ≤ 24) (f_held f_at f_fuelLeft f_runState : Int32) (a_ops a_numbers a_cells a_heights a_stack : Nat → Int32) (p o c h : Int32) (ho : fg_Op o) (K : ∀ a', post (nI n, 0, f_held, f_at, f_fuelLeft, f_runState, a_ops, a_numbers, a_cells, a', a_stack)) : wpX_followFrom post (nI n, 0, f_held, f_at, f_fuelLeft, f_runState, a_ops, a_numbers, a_cells, a_heights, a_stack) p o c h := by
  unfold wpX_followFrom
  refine fg_xgrowth _ ho (fun b _ => fg_xneeded _ ho ?_)
  refine br_c (fun _ => K _) (fun _ => br_c (fun _ => ?_) (fun _ => K _))
  refine br_c (fun _ => fg_w52z post hn _ _ _ _ _ _ _ _ _ o c b K) (fun _ => br_c (fun _ => fg_w52z post hn _ _ _ _ _ _ _ _ _ o c b K) (fun _ => ?_))
  exact fg_reach0 _ hn _ _ _ _ _ _ _ _ _ _ _ (fun a' => fg_w52z post hn _ _ _ _ _ _ _ _ _ o c b K)
theorem fg_follow1 (post : SX → Prop) {n : Nat} (hn : n ≤ 24) (f_held f_at f_fuelLeft f_runState : Int32) (a_ops a_numbers a_cells a_heights a_stack : Nat → Int32) (H : Nat → Option Nat) (ok : fg_Ok n H) (ag : fg_Ag a_heights H) (p h : Nat) (eh : H p = some h) (P o c hh : Int32) (eP : P = nI p) (eo : o = a_ops p) (ec : c = a_numbers p) (ehh : hh = nI h) (ho : fg_Op o) (K : ∀ s' a', fg_XR n (fg_step n a_ops a_numbers p H) s' a' → post (nI n, s', f_held, f_at, f_fuelLeft, f_runState, a_ops, a_numbers, a_cells, a', a_stack)) : wpX_followFrom post (nI n, 1, f_held, f_at, f_fuelLeft, f_runState, a_ops, a_numbers, a_cells, a_heights, a_stack) P o c hh := by
  subst eP ehh
  have hp := (ok p h eh).1
  have hh8 := (ok p h eh).2
  have hnd := fg_nd2 o
  unfold wpX_followFrom
  refine fg_xgrowth _ ho (fun b eb => fg_xneeded _ ho ?_)
  by_cases c1 : fg_nd o ≤ h
  · refine br_f (nI_nlt c1 (by omega)) ?_
    have eb' : b = nI (fg_bh o h) := eb.trans (fg_bh_eq h c1)
    have hbb : fg_bh o h ≤ h + 1 := by
      unfold fg_bh
      split
      · omega
      · split <;> omega
    by_cases c2 : fg_bh o h ≤ 8
    · refine br_t (by rw [eb']; exact nI_le (b := 8) c2 (by decide)) ?_
      have es : fg_step n a_ops a_numbers p H = (fg_nx n o p (fg_bh o h) H).bind (fg_jp n o c (fg_bh o h)) := by
        rw [eo, ec] at *
        exact fg_step_1 eh ⟨c1, c2⟩
      rw [es] at K
      rw [eb']
      by_cases d : o = 8 ∨ o = 13
      · have en : fg_nx n o p (fg_bh o h) H = some H := if_pos d
        rw [en] at K
        have W := fg_w52 post hn 1 f_held f_at f_fuelLeft f_runState a_ops a_numbers a_cells a_heights a_stack (some H) (fg_xr_1 rfl ok ag) o c (fg_bh o h) c2 K
        exact br_c (fun _ => W) (fun d8 => br_c (fun _ => W) (fun d13 => absurd d (fun z => by rcases z with z | z <;> contradiction)))
      · have en : fg_nx n o p (fg_bh o h) H = fg_come n (p + 1) (fg_bh o h) H := if_neg d
        rw [en] at K
        refine br_f (fun z => d (Or.inl z)) (br_f (fun z => d (Or.inr z)) ?_)
        refine fg_reach1 _ hn _ _ _ _ _ _ _ _ _ H ok ag _ (fg_bh o h) c2 ?_
        intro s' a' hx
        rw [nI_1, fg_tg_nI (by omega)] at hx
        exact fg_w52 post hn s' _ _ _ _ _ _ _ a' _ _ hx o c (fg_bh o h) c2 K
    · refine br_f (by rw [eb']; exact nI_ge (a := 8) (by omega) (by omega)) (K 0 _ (fg_xr_0 _ ?_))
      rw [eo] at c2
      exact fg_step_2 eh (fun z => c2 z.2)
  · refine br_t (nI_lt (by omega) (by omega)) (K 0 _ (fg_xr_0 _ ?_))
    rw [eo] at c1
    exact fg_step_2 eh (fun z => c1 z.1)
/-! X: a pass, all passes, the check -/
theorem fg_xpass (post : SX → Prop) {n : Nat} (hn : n ≤ 24) (f_held f_at f_fuelLeft f_runState : Int32) (a_ops a_numbers a_cells a_stack : Nat → Int32) (hops : ∀ p, fg_Op (a_ops p)) (x : Option (Nat → Option Nat)) (K : ∀ s' a', fg_XR n (fg_ps n a_ops a_numbers 24 x) s' a' → post (nI n, s', f_held, f_at, f_fuelLeft, f_runState, a_ops, a_numbers, a_cells, a', a_stack)) : ∀ d p, p + d = 24 → ∀ s a, fg_XR n (fg_ps n a_ops a_numbers p x) s a → wX_followReached_2 post (d + 1) (nI p) (nI n) s f_held f_at f_fuelLeft f_runState a_ops a_numbers a_cells a a_stack := by
  intro d
  induction d with
  | zero =>
    intro p hp s a hx
    obtain rfl : p = 24 := by omega
    exact br_t (nI_le (a := 24) (b := 24) (by omega) (by omega)) (K s a hx)
  | succ d ih =>
    intro p hp s a hx
    have hi : vp_in (nI p) 24 := vp_in_nI (by omega) (by omega)
    have hc : (nI p).toNatClampNeg = p := nI_clamp (by omega)
    refine br_f (nI_ge (b := 24) (by omega) (by omega)) ⟨hi, ?_⟩
    rcases hx with ⟨e, rfl⟩ | ⟨H, e, rfl, ok, ag⟩
    · have e' : fg_ps n a_ops a_numbers (p + 1) x = none := fg_ps_dead e (p + 1) (by omega)
      have N : ∀ a', ∀ y, y = nI p + 1 → wX_followReached_2 post (d + 1) y (nI n) 0 f_held f_at f_fuelLeft f_runState a_ops a_numbers a_cells a' a_stack := by
        intro a' y ey
        rw [ey, nI_1]
        exact ih (p + 1) (by omega) 0 a' (fg_xr_0 _ e')
      exact br_c (fun _ => N a) (fun _ => ⟨hi, hi, hi, fg_follow0 _ hn _ _ _ _ _ _ _ _ _ _ _ _ _ (hops _) N⟩)
    · have e' : fg_ps n a_ops a_numbers (p + 1) x = fg_step n a_ops a_numbers p H := by
        show (fg_ps n a_ops a_numbers p x).bind _ = _
        rw [e]
        rfl
      have N : ∀ s' a', fg_XR n (fg_step n a_ops a_numbers p H) s' a' → ∀ y, y = nI p + 1 → wX_followReached_2 post (d + 1) y (nI n) s' f_held f_at f_fuelLeft f_runState a_ops a_numbers a_cells a' a_stack := by
        intro s' a' hx y ey
        rw [ey, nI_1]
        rw [← e'] at hx
        exact ih (p + 1) (by omega) s' a' hx
      have ea : a (nI p).toNatClampNeg = fg_enc (H p) := by
        rw [hc]
        exact ag p (by omega)
      cases eH : H p with
      | none =>
        rw [eH] at ea
        exact br_t ea (N 1 a (fg_xr_1 (fg_step_0 eH) ok ag))
      | some h =>
        rw [eH] at ea
        refine br_f (by rw [ea]; exact fg_ne1 (fg_big (ok p h eH).2)) ⟨hi, hi, hi, ?_⟩
        exact fg_follow1 _ hn _ _ _ _ _ _ _ _ _ H ok ag p h eH _ _ _ _ rfl (congrArg a_ops hc) (congrArg a_numbers hc) ea (hops _) N
theorem fg_x34 (post : SX → Prop) {n : Nat} (hn : n ≤ 24) (f_held f_at f_fuelLeft f_runState : Int32) (a_ops a_numbers a_cells a_stack : Nat → Int32) (hops : ∀ p, fg_Op (a_ops p)) (K : ∀ s' a', fg_XR n (fg_it n a_ops a_numbers 24) s' a' → post (nI n, s', f_held, f_at, f_fuelLeft, f_runState, a_ops, a_numbers, a_cells, a', a_stack)) : ∀ d k, k + d = 24 → ∀ s a, fg_XR n (fg_it n a_ops a_numbers k) s a → wX_checkProgram_34 post (d + 1) (nI k) (nI n) s f_held f_at f_fuelLeft f_runState a_ops a_numbers a_cells a a_stack := by
  intro d
  induction d with
  | zero =>
    intro k hk s a hx
    obtain rfl : k = 24 := by omega
    exact br_t (nI_le (a := 24) (b := 24) (by omega) (by omega)) (K s a hx)
  | succ d ih =>
    intro k hk s a hx
    refine br_f (nI_ge (b := 24) (by omega) (by omega)) ⟨25, ?_⟩
    refine fg_xpass _ hn _ _ _ _ _ _ _ _ hops (fg_it n a_ops a_numbers k) ?_ 24 0 rfl s a hx
    intro s' a' hx' y ey
    rw [fg_ps_more (fg_it_ok n a_ops a_numbers k) 24 hn] at hx'
    rw [ey, nI_1]
    exact ih (k + 1) (by omega) s' a' hx'
theorem fg_x2 (post : SX → Prop) {n : Nat} (hn : n ≤ 24) (f_soundNow f_held f_at f_fuelLeft f_runState : Int32) (a_ops a_numbers a_cells a_stack : Nat → Int32) (hops : ∀ p, fg_Op (a_ops p)) (K : ∀ s' a', fg_XR n (fg_it n a_ops a_numbers 24) s' a' → post (nI n, s', f_held, f_at, f_fuelLeft, f_runState, a_ops, a_numbers, a_cells, a', a_stack)) : ∀ d p, p + d = 24 → ∀ a : Nat → Int32, (∀ q, q < p → a q = -1) → wX_checkProgram_2 post (nI n) f_soundNow f_held f_at f_fuelLeft f_runState (d + 1) (nI p) a_ops a_numbers a_cells a a_stack := by
  intro d
  induction d with
  | zero =>
    intro p hp a ha
    obtain rfl : p = 24 := by omega
    refine br_t (nI_le (a := 24) (b := 24) (by omega) (by omega)) ?_
    refine fg_reach1 _ hn _ _ _ _ _ _ _ _ _ (fun _ => none) (fun p k z => nomatch z) ha 0 0 (by omega) ?_
    intro s' a' hx
    exact ⟨25, fg_x34 post hn _ _ _ _ _ _ _ _ hops K 24 0 rfl s' a' hx⟩
  | succ d ih =>
    intro p hp a ha
    have hi : vp_in (nI p) 24 := vp_in_nI (by omega) (by omega)
    have hc : (nI p).toNatClampNeg = p := nI_clamp (by omega)
    refine br_f (nI_ge (b := 24) (by omega) (by omega)) ⟨hi, ?_⟩
    intro a' ea y ey
    rw [hc] at ea
    rw [ey, nI_1]
    refine ih (p + 1) (by omega) a' ?_
    intro q hq
    rw [ea]
    by_cases c : q = p
    · rw [c]
      exact pk_us
    · rw [pk_un c]
      exact ha q (by omega)
theorem fg_xcheck (post : SX → Prop) {n : Nat} (hn : n ≤ 24) (f_soundNow f_held f_at f_fuelLeft f_runState : Int32) (a_ops a_numbers a_cells a_heights a_stack : Nat → Int32) (hops : ∀ p, fg_Op (a_ops p)) (K : ∀ s' a', fg_XR n (fg_it n a_ops a_numbers 24) s' a' → post (nI n, s', f_held, f_at, f_fuelLeft, f_runState, a_ops, a_numbers, a_cells, a', a_stack)) : wpX_checkProgram post (nI n, f_soundNow, f_held, f_at, f_fuelLeft, f_runState, a_ops, a_numbers, a_cells, a_heights, a_stack) :=
  ⟨25, fg_x2 post hn _ _ _ _ _ _ _ _ _ hops K 24 0 rfl a_heights (fun q hq => absurd hq (Nat.not_lt_zero q))⟩
end
section
/-! Y: change, needs, come, check, sound -/
theorem fg_ychange (post : Int32 → Prop) (v : SY) {o : Int32} (ho : fg_Op o) (K : post (fg_gr o)) : wpY_change post v o := by
  obtain ⟨v1, v2, v3, v4, v5, v6, v7, v8, v9, v10⟩ := v
  rcases ho with rfl | rfl | rfl | rfl | rfl | rfl | rfl | rfl | rfl | rfl | rfl | rfl | rfl | rfl | rfl <;> simpa [wpY_change, wY_change_38, fg_gr] using K
theorem fg_yneeds (post : Int32 → Prop) (v : SY) {o : Int32} (ho : fg_Op o) (K : post (nI (fg_nd o))) : wpY_needs post v o := by
  have e0 : nI 0 = 0 := nI_0
  have e1 : nI 1 = 1 := by decide +kernel
  have e2 : nI 2 = 2 := by decide +kernel
  obtain ⟨v1, v2, v3, v4, v5, v6, v7, v8, v9, v10⟩ := v
  rcases ho with rfl | rfl | rfl | rfl | rfl | rfl | rfl | rfl | rfl | rfl | rfl | rfl | rfl | rfl | rfl <;> simpa [wpY_needs, fg_nd, e0, e1, e2] using K
theorem fg_ycome (post : Int32 → SY → Prop) {n : Nat} (hn : n ≤ 24) (f_state f_fuel f_at f_high : Int32) (a_ops a_cs a_cells a_heights a_stack : Nat → Int32) (H : Nat → Option Nat) (ok : fg_Ok n H) (ag : fg_Ag a_heights H) (p : Int32) (h : Nat) (hh : h ≤ 8) (K : ∀ r b', fg_XR n (fg_come n (fg_tg p) h H) r b' → post r (nI n, f_state, f_fuel, f_at, f_high, a_ops, a_cs, a_cells, b', a_stack)) : wpY_come post (nI n, f_state, f_fuel, f_at, f_high, a_ops, a_cs, a_cells, a_heights, a_stack) p (nI h) := by
  by_cases h0 : p < 0
  · exact br_t h0 (K 0 a_heights (fg_xr_0 _ (fg_come_out h H (by rw [fg_tg_neg h0]; omega))))
  · obtain ⟨j, hj, rfl⟩ := nI_of h0
    rw [fg_tg_nI hj] at K
    by_cases h1 : j < n
    · have hi : vp_in (nI j) 24 := vp_in_nI (by omega) (by omega)
      have ea : a_heights (nI j).toNatClampNeg = fg_enc (H j) := by
        rw [nI_clamp hj]
        exact ag j (by omega)
      refine br_f h0 (br_t (nI_lt h1 (by omega)) ⟨hi, ?_⟩)
      cases e : H j with
      | none =>
        rw [e] at ea
        refine br_t (by rw [ea]; decide) ⟨hi, fun a' e' => K 1 a' ?_⟩
        rw [nI_clamp hj] at e'
        rw [e']
        exact fg_xr_1 (fg_come_new h h1 e) (fg_come_ok (fg_come_new h h1 e) hh ok) (fg_ag_set j h ag)
      | some k =>
        rw [e] at ea
        have hk := (ok j k e).2
        refine br_f (by rw [ea]; exact nI_pos (fg_big hk)) ⟨hi, ?_⟩
        by_cases c : k = h
        · rw [c] at ea e
          refine br_t ea ⟨hi, fun a' e' => K 1 a' ?_⟩
          rw [nI_clamp hj] at e'
          rw [e']
          exact fg_xr_1 (fg_come_same h1 e) ok (fg_ag_same j h e ag)
        · exact br_f (by rw [ea]; exact fun z => c ((nI_eq (fg_big hk) (fg_big hh)).mp z)) (K 0 a_heights (fg_xr_0 _ (fg_come_clash h1 e c)))
    · exact br_f h0 (br_f (nI_nlt (by omega) hj) (K 0 a_heights (fg_xr_0 _ (fg_come_out h H h1))))
theorem fg_y70 (post : Int32 → SY → Prop) {n : Nat} (hn : n ≤ 24) (f_state f_fuel f_at f_high : Int32) (a_ops a_cs a_cells a_heights a_stack : Nat → Int32) (H : Nat → Option Nat) (ok : fg_Ok n H) (ag : fg_Ag a_heights H) (p b : Nat) (hp : p < 24) (hb : b ≤ 8) (o : Int32) (K : ∀ r b', fg_XR n (fg_nx n o p b H) r b' → post r (nI n, f_state, f_fuel, f_at, f_high, a_ops, a_cs, a_cells, b', a_stack)) : wY_check_70 post (nI p) o (nI b) (nI n) f_state f_fuel f_at f_high a_ops a_cs a_cells a_heights a_stack := by
  by_cases d : o = 8 ∨ o = 13
  · have e : fg_nx n o p b H = some H := if_pos d
    rw [e] at K
    have W := K 1 a_heights (fg_xr_1 rfl ok ag)
    exact br_c (fun _ => W) (fun d8 => br_c (fun _ => W) (fun d13 => absurd d (fun z => by rcases z with z | z <;> contradiction)))
  · have e : fg_nx n o p b H = fg_come n (p + 1) b H := if_neg d
    rw [e] at K
    refine br_f (fun z => d (Or.inl z)) (br_f (fun z => d (Or.inr z)) ?_)
    refine fg_ycome _ hn _ _ _ _ _ _ _ _ _ H ok ag _ b hb ?_
    intro r b' hx
    rw [nI_1, fg_tg_nI (by omega)] at hx
    have hx' := hx
    rcases hx with ⟨_, rfl⟩ | ⟨_, _, rfl, _⟩
    · exact br_t rfl (K 0 b' hx')
    · exact br_f (by decide) (K 1 b' hx')
theorem fg_ycheck (post : Int32 → SY → Prop) {n : Nat} (hn : n ≤ 24) (f_state f_fuel f_at f_high : Int32) (a_ops a_cs a_cells a_heights a_stack : Nat → Int32) (hops : ∀ p, fg_Op (a_ops p)) (H : Nat → Option Nat) (ok : fg_Ok n H) (ag : fg_Ag a_heights H) (p h : Nat) (eh : H p = some h) (K : ∀ r b', fg_XR n (fg_step n a_ops a_cs p H) r b' → post r (nI n, f_state, f_fuel, f_at, f_high, a_ops, a_cs, a_cells, b', a_stack)) : wpY_check post (nI n, f_state, f_fuel, f_at, f_high, a_ops, a_cs, a_cells, a_heights, a_stack) (nI p) := by
  have hp := (ok p h eh).1
  have hh8 := (ok p h eh).2
  have hi : vp_in (nI p) 24 := vp_in_nI (by omega) (by omega)
  have hc : (nI p).toNatClampNeg = p := nI_clamp (by omega)
  have ea : a_heights (nI p).toNatClampNeg = nI h := by
    rw [hc, ag p (by omega), eh]
    rfl
  refine ⟨hi, fun o eo => ⟨hi, ?_⟩⟩
  have eo' : o = a_ops p := by rw [eo, hc]
  have ho : fg_Op o := by rw [eo']; exact hops p
  have hnd := fg_nd2 o
  refine fg_ychange _ _ ho (fun b eb => ⟨hi, fg_yneeds _ _ ho ?_⟩)
  rw [ea] at eb ⊢
  by_cases c1 : fg_nd o ≤ h
  · refine br_f (nI_nlt c1 (by omega)) ?_
    have eb' : b = nI (fg_bh o h) := eb.trans (fg_bh_eq h c1)
    have hbb : fg_bh o h ≤ h + 1 := by
      unfold fg_bh
      split
      · omega
      · split <;> omega
    by_cases c2 : fg_bh o h ≤ 8
    · refine br_t (by rw [eb']; exact nI_le (b := 8) c2 (by decide)) ?_
      have es : fg_step n a_ops a_cs p H = (fg_jp n o (a_cs p) (fg_bh o h) H).bind (fg_nx n o p (fg_bh o h)) := by
        rw [← fg_swap]
        rw [eo'] at c1 c2 ⊢
        exact fg_step_1 eh ⟨c1, c2⟩
      rw [es] at K
      rw [eb']
      by_cases d : o = 8 ∨ o = 9 ∨ o = 10
      · have en : fg_jp n o (a_cs p) (fg_bh o h) H = fg_come n (fg_tg (a_cs p)) (fg_bh o h) H := if_pos d
        rw [en] at K
        refine br_f (by rcases d with rfl | rfl | rfl <;> decide) (br_f (by rcases d with rfl | rfl | rfl <;> decide) ⟨hi, ?_⟩)
        refine fg_ycome _ hn _ _ _ _ _ _ _ _ _ H ok ag _ (fg_bh o h) c2 ?_
        intro r b' hx
        rw [hc] at hx
        rcases hx with ⟨e, rfl⟩ | ⟨H1, e, rfl, ok1, ag1⟩
        · rw [e] at K
          exact br_t rfl (K 0 b' (fg_xr_0 _ rfl))
        · rw [e] at K
          exact br_f (by decide) (fg_y70 post hn _ _ _ _ _ _ _ _ _ H1 ok1 ag1 p (fg_bh o h) (by omega) c2 o K)
      · have en : fg_jp n o (a_cs p) (fg_bh o h) H = some H := if_neg d
        rw [en] at K
        have W := fg_y70 post hn f_state f_fuel f_at f_high a_ops a_cs a_cells a_heights a_stack H ok ag p (fg_bh o h) (by omega) c2 o K
        refine br_c (fun _ => W) (fun z1 => br_c (fun _ => W) (fun z2 => ?_))
        rcases ho with rfl | rfl | rfl | rfl | rfl | rfl | rfl | rfl | rfl | rfl | rfl | rfl | rfl | rfl | rfl <;> first | exact absurd (by decide) z1 | exact absurd (by decide) z2 | exact absurd (by decide) d
    · refine br_f (by rw [eb']; exact nI_ge (a := 8) (by omega) (by omega)) (K 0 _ (fg_xr_0 _ ?_))
      rw [eo'] at c2
      exact fg_step_2 eh (fun z => c2 z.2)
  · refine br_t (nI_lt (by omega) (by omega)) (K 0 _ (fg_xr_0 _ ?_))
    rw [eo'] at c1
    exact fg_step_2 eh (fun z => c1 z.1)
theorem fg_y42 (post : Int32 → SY → Prop) {n : Nat} (hn : n ≤ 24) (f_state f_fuel f_at f_high : Int32) (a_ops a_cs a_cells a_stack : Nat → Int32) (hops : ∀ p, fg_Op (a_ops p)) (J : Int32 → Int32 → Int32 → Int32 → Int32 → Int32 → (Nat → Int32) → (Nat → Int32) → (Nat → Int32) → (Nat → Int32) → (Nat → Int32) → Prop) (k : Nat) (hk : k < 25) (K : ∀ r b', fg_XR n (fg_it n a_ops a_cs 25) r b' → post r (nI n, f_state, f_fuel, f_at, f_high, a_ops, a_cs, a_cells, b', a_stack)) (KJ : ∀ H b', fg_it n a_ops a_cs (k + 1) = some H → fg_Ok n H → fg_Ag b' H → J (nI (k + 1)) (nI n) f_state f_fuel f_at f_high a_ops a_cs a_cells b' a_stack) : ∀ d p, p + d = n → ∀ H b, fg_ps n a_ops a_cs p (fg_it n a_ops a_cs k) = some H → fg_Ok n H → fg_Ag b H → wY_sound_42 post J (nI k) (d + 1) (nI p) (nI n) f_state f_fuel f_at f_high a_ops a_cs a_cells b a_stack := by
  intro d
  induction d with
  | zero =>
    intro p hp H b e ok ag
    obtain rfl : p = n := by omega
    refine br_t (nI_le (by omega) (by omega)) ?_
    intro y ey
    rw [ey, nI_1]
    exact KJ H b e ok ag
  | succ d ih =>
    intro p hp H b e ok ag
    have hi : vp_in (nI p) 24 := vp_in_nI (by omega) (by omega)
    have hc : (nI p).toNatClampNeg = p := nI_clamp (by omega)
    have e' : fg_ps n a_ops a_cs (p + 1) (fg_it n a_ops a_cs k) = fg_step n a_ops a_cs p H := by
      show (fg_ps n a_ops a_cs p (fg_it n a_ops a_cs k)).bind _ = _
      rw [e]
      rfl
    refine br_f (nI_ge (by omega) (by omega)) ⟨hi, ?_⟩
    have ea : b (nI p).toNatClampNeg = fg_enc (H p) := by
      rw [hc]
      exact ag p (by omega)
    cases eH : H p with
    | none =>
      rw [eH] at ea
      refine br_t (by rw [ea]; decide) ?_
      intro y ey
      rw [ey, nI_1]
      exact ih (p + 1) (by omega) H b (e'.trans (fg_step_0 eH)) ok ag
    | some h =>
      rw [eH] at ea
      refine br_f (by rw [ea]; exact nI_pos (fg_big (ok p h eH).2)) ?_
      refine fg_ycheck _ hn _ _ _ _ _ _ _ _ _ hops H ok ag p h eH ?_
      intro r b' hx
      rw [← e'] at hx
      rcases hx with ⟨z, rfl⟩ | ⟨H1, z, rfl, ok1, ag1⟩
      · refine br_t rfl (K 0 b' (fg_xr_0 _ ?_))
        exact fg_it_dead (k := k + 1) (fg_ps_dead z n (by omega)) 25 (by omega)
      · refine br_f (by decide) ?_
        intro y ey
        rw [ey, nI_1]
        exact ih (p + 1) (by omega) H1 b' z ok1 ag1
theorem fg_y34 (post : Int32 → SY → Prop) {n : Nat} (hn : n ≤ 24) (f_state f_fuel f_at f_high : Int32) (a_ops a_cs a_cells a_stack : Nat → Int32) (hops : ∀ p, fg_Op (a_ops p)) (K : ∀ r b', fg_XR n (fg_it n a_ops a_cs 25) r b' → post r (nI n, f_state, f_fuel, f_at, f_high, a_ops, a_cs, a_cells, b', a_stack)) : ∀ d k, k + d = 25 → ∀ H b, fg_it n a_ops a_cs k = some H → fg_Ok n H → fg_Ag b H → wY_sound_34 post (d + 1) (nI k) (nI n) f_state f_fuel f_at f_high a_ops a_cs a_cells b a_stack := by
  intro d
  induction d with
  | zero =>
    intro k hk H b e ok ag
    obtain rfl : k = 25 := by omega
    exact br_t (nI_le (a := 25) (b := 25) (by omega) (by omega)) (K 1 b (fg_xr_1 e ok ag))
  | succ d ih =>
    intro k hk H b e ok ag
    refine br_f (nI_ge (b := 25) (by omega) (by omega)) ⟨n + 1, ?_⟩
    exact fg_y42 post hn f_state f_fuel f_at f_high a_ops a_cs a_cells a_stack hops _ k (by omega) K (fun H' b' e' ok' ag' => ih (k + 1) (by omega) H' b' e' ok' ag') n 0 (by omega) H b e ok ag
theorem fg_y2 (post : Int32 → SY → Prop) {n : Nat} (hn : n ≤ 24) (f_state f_fuel f_at f_high : Int32) (a_ops a_cs a_cells a_stack : Nat → Int32) (hops : ∀ p, fg_Op (a_ops p)) (K : ∀ r b', fg_XR n (fg_it n a_ops a_cs 25) r b' → post r (nI n, f_state, f_fuel, f_at, f_high, a_ops, a_cs, a_cells, b', a_stack)) : ∀ d p, p + d = 24 → ∀ b : Nat → Int32, (∀ q, q < p → b q = -1) → wY_sound_2 post (nI n) f_state f_fuel f_at f_high (d + 1) (nI p) a_ops a_cs a_cells b a_stack := by
  intro d
  induction d with
  | zero =>
    intro p hp b hb
    obtain rfl : p = 24 := by omega
    refine br_t (nI_le (a := 24) (b := 24) (by omega) (by omega)) ?_
    refine fg_ycome _ hn _ _ _ _ _ _ _ _ _ (fun _ => none) (fun p k z => nomatch z) hb 0 0 (by omega) ?_
    intro r b' hx
    rcases hx with ⟨z, rfl⟩ | ⟨H1, z, rfl, ok1, ag1⟩
    · exact br_t rfl (K 0 b' (fg_xr_0 _ (fg_it_dead (k := 0) z 25 (by omega))))
    · exact br_f (by decide) ⟨26, fg_y34 post hn _ _ _ _ _ _ _ _ hops K 25 0 rfl H1 b' z ok1 ag1⟩
  | succ d ih =>
    intro p hp b hb
    have hi : vp_in (nI p) 24 := vp_in_nI (by omega) (by omega)
    have hc : (nI p).toNatClampNeg = p := nI_clamp (by omega)
    refine br_f (nI_ge (b := 24) (by omega) (by omega)) ⟨hi, ?_⟩
    intro b' eb y ey
    rw [hc] at eb
    rw [ey, nI_1]
    refine ih (p + 1) (by omega) b' ?_
    intro q hq
    rw [eb]
    by_cases c : q = p
    · rw [c]
      exact pk_us
    · rw [pk_un c]
      exact hb q (by omega)
theorem fg_ysound (post : Int32 → SY → Prop) {n : Nat} (hn : n ≤ 24) (f_state f_fuel f_at f_high : Int32) (a_ops a_cs a_cells a_heights a_stack : Nat → Int32) (hops : ∀ p, fg_Op (a_ops p)) (K : ∀ r b', fg_XR n (fg_it n a_ops a_cs 24) r b' → post r (nI n, f_state, f_fuel, f_at, f_high, a_ops, a_cs, a_cells, b', a_stack)) : wpY_sound post (nI n, f_state, f_fuel, f_at, f_high, a_ops, a_cs, a_cells, a_heights, a_stack) := by
  rw [← fg_25 hn a_ops a_cs] at K
  exact ⟨25, fg_y2 post hn _ _ _ _ _ _ _ _ hops K 24 0 rfl a_heights (fun q hq => absurd hq (Nat.not_lt_zero q))⟩
end
section
/-! put and take, cost, fuel -/
theorem pk_sub {a b : Nat} (h : b ≤ a) : nI a - nI b = nI (a - b) := by
  obtain ⟨c, rfl⟩ : ∃ c, a = c + b := ⟨a - b, by omega⟩
  rw [← nI_add, Int32.add_sub_cancel, Nat.add_sub_cancel]
theorem fg_upd_same (f : Nat → Int32) (k : Nat) : upd f k (f k) = f := by
  funext j
  by_cases c : j = k
  · rw [c, pk_us]
  · rw [pk_un c]
theorem fg_xput (post : SX → Prop) (C s at' F st : Int32) (ops cs cells a stk : Nat → Int32) (h : Nat) (hh : h < 8) (x : Int32) (K : post (C, s, nI (h + 1), at', F, st, ops, cs, cells, a, upd stk h x)) : wpX_put post (C, s, nI h, at', F, st, ops, cs, cells, a, stk) x := by
  refine br_f (nI_pos (by omega)) (br_f (nI_ge (b := 8) hh (by omega)) ⟨vp_in_nI hh (by omega), ?_⟩)
  intro t et y ey
  rw [nI_clamp (by omega)] at et
  rw [nI_1] at ey
  rw [et, ey]
  exact K
theorem fg_xtake (post : Int32 → SX → Prop) (C s at' F st : Int32) (ops cs cells a stk : Nat → Int32) (m : Nat) (hm : m < 8) (K : post (stk m) (C, s, nI m, at', F, st, ops, cs, cells, a, stk)) : wpX_take post (C, s, nI (m + 1), at', F, st, ops, cs, cells, a, stk) := by
  refine br_f (nI_nle (by omega) (by omega)) (br_t (nI_le (b := 8) (by omega) (by omega)) ?_)
  intro y ey
  rw [nI_pred] at ey
  rw [ey, nI_clamp (by omega)]
  exact ⟨vp_in_nI hm (by omega), K⟩
theorem fg_yput (post : SY → Prop) (C st F at' : Int32) (ops cs cells b stk : Nat → Int32) (h : Nat) (hh : h < 16) (x : Int32) (K : post (C, st, F, at', nI (h + 1), ops, cs, cells, b, upd stk h x)) : wpY_put post (C, st, F, at', nI h, ops, cs, cells, b, stk) x := by
  refine br_f (nI_ge (b := 16) hh (by omega)) ⟨vp_in_nI hh (by omega), ?_⟩
  intro t et y ey
  rw [nI_clamp (by omega)] at et
  rw [nI_1] at ey
  rw [et, ey]
  exact K
theorem fg_ytake (post : Int32 → SY → Prop) (C st F at' : Int32) (ops cs cells b stk : Nat → Int32) (m : Nat) (hm : m < 16) (K : post (stk m) (C, st, F, at', nI m, ops, cs, cells, b, stk)) : wpY_take post (C, st, F, at', nI (m + 1), ops, cs, cells, b, stk) := by
  refine br_f (nI_ne0 (by omega) (by omega)) ?_
  intro y ey
  rw [nI_pred] at ey
  rw [ey, nI_clamp (by omega)]
  exact ⟨vp_in_nI hm (by omega), K⟩
def fg_cost (o c : Int32) : Nat := if o = 14 then c.toBitVec.toNat % 2 ^ 4 + 1 else if o = 5 then 3 else 1
theorem fg_cost_in (o c : Int32) : 1 ≤ fg_cost o c ∧ fg_cost o c ≤ 16 := by
  unfold fg_cost
  split
  · have := Nat.mod_lt c.toBitVec.toNat (show 0 < 2 ^ 4 by decide)
    omega
  · split <;> omega
theorem fg_cost14 (c : Int32) : (c &&& 15) + 1 = nI (c.toBitVec.toNat % 2 ^ 4 + 1) := by
  rw [pk_and c 4 (by decide), nI_1]
theorem fg_xcost (post : Int32 → Prop) (o c : Int32) (K : post (nI (fg_cost o c))) : wpX_costOf post o c := by
  unfold fg_cost at K
  by_cases d : o = 14
  · rw [if_pos d, ← fg_cost14] at K
    exact br_t d K
  · rw [if_neg d] at K
    by_cases d5 : o = 5
    · rw [if_pos d5] at K
      exact br_f d (br_t d5 K)
    · rw [if_neg d5] at K
      exact br_f d (br_f d5 K)
theorem fg_ycost (post : Int32 → Prop) (C st F at' hi' : Int32) (ops cs cells b stk : Nat → Int32) (p : Nat) (hp : p < 24) (K : post (nI (fg_cost (ops p) (cs p)))) : wpY_cost post (C, st, F, at', hi', ops, cs, cells, b, stk) (nI p) := by
  have hi : vp_in (nI p) 24 := vp_in_nI (by omega) (by omega)
  have hc : (nI p).toNatClampNeg = p := nI_clamp (by omega)
  unfold fg_cost at K
  unfold wpY_cost
  rw [hc]
  by_cases d : ops p = 14
  · rw [if_pos d, ← fg_cost14] at K
    exact ⟨hi, br_t d ⟨hi, K⟩⟩
  · rw [if_neg d] at K
    by_cases d5 : ops p = 5
    · rw [if_pos d5] at K
      exact ⟨hi, br_f d ⟨hi, br_t d5 K⟩⟩
    · rw [if_neg d5] at K
      exact ⟨hi, br_f d ⟨hi, br_f d5 K⟩⟩
def fg_af (x : Int32) : Nat := if x < 0 then 0 else if x.toNatClampNeg ≤ 2000 then x.toNatClampNeg else 2000
theorem fg_af_le (x : Int32) : fg_af x ≤ 2000 := by
  unfold fg_af
  split
  · omega
  · split <;> omega
theorem fg_af_nI {k : Nat} (hk : k < 2 ^ 31) : fg_af (nI k) = if k ≤ 2000 then k else 2000 := by
  unfold fg_af
  rw [if_neg (nI_pos hk), nI_clamp hk]
theorem fg_xaf (post : Int32 → Prop) (x : Int32) (K : post (nI (fg_af x))) : wpX_allowedFuel post x := by
  by_cases h0 : x < 0
  · have e : fg_af x = 0 := if_pos h0
    rw [e] at K
    exact br_f (Int32.not_le.mpr h0) K
  · obtain ⟨j, hj, rfl⟩ := nI_of h0
    rw [fg_af_nI hj] at K
    refine br_t (nI_pos' hj) ?_
    by_cases h1 : j ≤ 2000
    · rw [if_pos h1] at K
      exact br_t (nI_le (b := 2000) h1 (by omega)) K
    · rw [if_neg h1] at K
      exact br_f (nI_ge (a := 2000) (by omega) hj) K
theorem fg_yleast (post : Int32 → Prop) (v : SY) (j : Nat) (hj : j < 2 ^ 31) (K : post (nI (if j ≤ 2000 then j else 2000))) : wpY_least post v (nI j) 2000 := by
  obtain ⟨v1, v2, v3, v4, v5, v6, v7, v8, v9, v10⟩ := v
  by_cases h1 : 2000 ≤ j
  · have e : (if j ≤ 2000 then j else 2000) = 2000 := by
      split <;> omega
    rw [e] at K
    exact br_t (nI_le (a := 2000) h1 hj) K
  · rw [if_pos (by omega)] at K
    exact br_f (nI_ge (b := 2000) (by omega) (by omega)) K
theorem fg_yaf (post : Int32 → Prop) (v : SY) (x : Int32) (K : post (nI (fg_af x))) : wpY_held post v x := by
  obtain ⟨v1, v2, v3, v4, v5, v6, v7, v8, v9, v10⟩ := v
  by_cases h0 : x < 0
  · have e : fg_af x = 0 := if_pos h0
    rw [e] at K
    exact br_f (Int32.not_le.mpr h0) K
  · obtain ⟨j, hj, rfl⟩ := nI_of h0
    rw [fg_af_nI hj] at K
    exact br_t (nI_pos' hj) (fg_yleast _ _ j hj K)
/-! one instruction: X -/
theorem fg_xo0 (post : SX → Prop) (C s F st : Int32) (ops cs cells a stk : Nat → Int32) (m p : Nat) (hm : m < 8) (c : Int32) (K : post (C, s, nI (m + 1), nI (p + 1), F, st, ops, cs, cells, a, (upd stk m c))) : wpX_carryOut post (C, s, nI (m), nI p, F, st, ops, cs, cells, a, stk) 0 c := by
  intro x3 e3
  rw [nI_1] at e3
  subst e3
  refine br_f (by decide) (br_f (by decide) (br_t rfl (fg_xput _ _ _ _ _ _ _ _ _ _ _ (m) (by omega) _ K)))
theorem fg_xo1 (post : SX → Prop) (C s F st : Int32) (ops cs cells a stk : Nat → Int32) (m p : Nat) (hm : m < 8) (c : Int32) (K : post (C, s, nI (m), nI (p + 1), F, st, ops, cs, cells, a, stk)) : wpX_carryOut post (C, s, nI (m + 1), nI p, F, st, ops, cs, cells, a, stk) 1 c := by
  intro x3 e3
  rw [nI_1] at e3
  subst e3
  refine br_f (by decide) (br_f (by decide) (br_f (by decide) (br_t rfl (fg_xtake _ _ _ _ _ _ _ _ _ _ _ (m) (by omega) K))))
theorem fg_xo2 (post : SX → Prop) (C s F st : Int32) (ops cs cells a stk : Nat → Int32) (m p : Nat) (hm : m + 1 < 8) (c : Int32) (K : post (C, s, nI (m + 1 + 1), nI (p + 1), F, st, ops, cs, cells, a, (upd stk (m + 1) (stk m)))) : wpX_carryOut post (C, s, nI (m + 1), nI p, F, st, ops, cs, cells, a, stk) 2 c := by
  intro x3 e3
  rw [nI_1] at e3
  subst e3
  have ee : upd (upd stk m (stk m)) (m + 1) (stk m) = upd stk (m + 1) (stk m) := by rw [fg_upd_same]
  rw [← ee] at K
  refine br_f (by decide) (br_f (by decide) (br_f (by decide) (br_f (by decide) (br_t rfl ?_))))
  unfold wpX_duplicate
  exact (fg_xtake _ _ _ _ _ _ _ _ _ _ _ (m) (by omega) (fg_xput _ _ _ _ _ _ _ _ _ _ _ (m) (by omega) _ (fg_xput _ _ _ _ _ _ _ _ _ _ _ (m + 1) (by omega) _ K)))
theorem fg_xo3 (post : SX → Prop) (C s F st : Int32) (ops cs cells a stk : Nat → Int32) (m p : Nat) (hm : m + 1 < 8) (c : Int32) (K : post (C, s, nI (m + 1), nI (p + 1), F, st, ops, cs, cells, a, (upd stk m (stk m + stk (m + 1))))) : wpX_carryOut post (C, s, nI (m + 1 + 1), nI p, F, st, ops, cs, cells, a, stk) 3 c := by
  intro x3 e3
  rw [nI_1] at e3
  subst e3
  refine br_f (by decide) (br_f (by decide) (br_f (by decide) (br_f (by decide) (br_f (by decide) (br_t rfl ?_)))))
  unfold wX_carryOut_177 wpX_carryOutOnTwo
  exact (fg_xtake _ _ _ _ _ _ _ _ _ _ _ (m + 1) (by omega) (fg_xtake _ _ _ _ _ _ _ _ _ _ _ (m) (by omega) (br_f (by decide) (br_f (by decide) (br_t rfl (fg_xput _ _ _ _ _ _ _ _ _ _ _ (m) (by omega) _ K))))))
theorem fg_xo4 (post : SX → Prop) (C s F st : Int32) (ops cs cells a stk : Nat → Int32) (m p : Nat) (hm : m + 1 < 8) (c : Int32) (K : post (C, s, nI (m + 1), nI (p + 1), F, st, ops, cs, cells, a, (upd stk m (stk m - stk (m + 1))))) : wpX_carryOut post (C, s, nI (m + 1 + 1), nI p, F, st, ops, cs, cells, a, stk) 4 c := by
  intro x3 e3
  rw [nI_1] at e3
  subst e3
  refine br_f (by decide) (br_f (by decide) (br_f (by decide) (br_f (by decide) (br_f (by decide) (br_f (by decide) (br_t rfl ?_))))))
  unfold wX_carryOut_177 wpX_carryOutOnTwo
  exact (fg_xtake _ _ _ _ _ _ _ _ _ _ _ (m + 1) (by omega) (fg_xtake _ _ _ _ _ _ _ _ _ _ _ (m) (by omega) (br_f (by decide) (br_f (by decide) (br_f (by decide) (br_t rfl (fg_xput _ _ _ _ _ _ _ _ _ _ _ (m) (by omega) _ K)))))))
theorem fg_xo5 (post : SX → Prop) (C s F st : Int32) (ops cs cells a stk : Nat → Int32) (m p : Nat) (hm : m + 1 < 8) (c : Int32) (K : post (C, s, nI (m + 1), nI (p + 1), F, st, ops, cs, cells, a, (upd stk m (stk m * stk (m + 1))))) : wpX_carryOut post (C, s, nI (m + 1 + 1), nI p, F, st, ops, cs, cells, a, stk) 5 c := by
  intro x3 e3
  rw [nI_1] at e3
  subst e3
  refine br_f (by decide) (br_f (by decide) (br_f (by decide) (br_f (by decide) (br_f (by decide) (br_f (by decide) (br_f (by decide) (br_t rfl ?_)))))))
  unfold wX_carryOut_177 wpX_carryOutOnTwo
  exact (fg_xtake _ _ _ _ _ _ _ _ _ _ _ (m + 1) (by omega) (fg_xtake _ _ _ _ _ _ _ _ _ _ _ (m) (by omega) (br_f (by decide) (br_f (by decide) (br_f (by decide) (br_f (by decide) (br_t rfl (fg_xput _ _ _ _ _ _ _ _ _ _ _ (m) (by omega) _ K))))))))
theorem fg_xo6 (post : SX → Prop) (C s F st : Int32) (ops cs cells a stk : Nat → Int32) (m p : Nat) (hm : m + 1 < 8) (c : Int32) (K : post (C, s, nI (m + 1 + 1), nI (p + 1), F, st, ops, cs, cells, a, (upd (upd stk m (stk (m + 1))) (m + 1) (stk m)))) : wpX_carryOut post (C, s, nI (m + 1 + 1), nI p, F, st, ops, cs, cells, a, stk) 6 c := by
  intro x3 e3
  rw [nI_1] at e3
  subst e3
  refine br_f (by decide) (br_f (by decide) (br_f (by decide) (br_f (by decide) (br_f (by decide) (br_f (by decide) (br_f (by decide) (br_f (by decide) (br_t rfl ?_))))))))
  unfold wX_carryOut_177 wpX_carryOutOnTwo
  exact (fg_xtake _ _ _ _ _ _ _ _ _ _ _ (m + 1) (by omega) (fg_xtake _ _ _ _ _ _ _ _ _ _ _ (m) (by omega) (br_f (by decide) (br_f (by decide) (br_f (by decide) (br_f (by decide) (br_f (by decide) (br_t rfl (fg_xput _ _ _ _ _ _ _ _ _ _ _ (m) (by omega) _ (fg_xput _ _ _ _ _ _ _ _ _ _ _ (m + 1) (by omega) _ K))))))))))
theorem fg_xo7 (post : SX → Prop) (C s F st : Int32) (ops cs cells a stk : Nat → Int32) (m p : Nat) (hm : m + 2 < 8) (c : Int32) (K : post (C, s, nI (m + 1 + 1 + 1), nI (p + 1), F, st, ops, cs, cells, a, (upd (upd (upd stk m (stk m)) (m + 1) (stk (m + 1))) (m + 1 + 1) (stk m)))) : wpX_carryOut post (C, s, nI (m + 1 + 1), nI p, F, st, ops, cs, cells, a, stk) 7 c := by
  intro x3 e3
  rw [nI_1] at e3
  subst e3
  refine br_f (by decide) (br_f (by decide) (br_f (by decide) (br_f (by decide) (br_f (by decide) (br_f (by decide) (br_f (by decide) (br_f (by decide) (br_f (by decide) (br_t rfl ?_)))))))))
  unfold wX_carryOut_177 wpX_carryOutOnTwo
  exact (fg_xtake _ _ _ _ _ _ _ _ _ _ _ (m + 1) (by omega) (fg_xtake _ _ _ _ _ _ _ _ _ _ _ (m) (by omega) (br_f (by decide) (br_f (by decide) (br_f (by decide) (br_f (by decide) (br_f (by decide) (br_f (by decide) (br_t rfl (fg_xput _ _ _ _ _ _ _ _ _ _ _ (m) (by omega) _ (fg_xput _ _ _ _ _ _ _ _ _ _ _ (m + 1) (by omega) _ (fg_xput _ _ _ _ _ _ _ _ _ _ _ (m + 1 + 1) (by omega) _ K))))))))))))
theorem fg_xo8 (post : SX → Prop) (C s F st : Int32) (ops cs cells a stk : Nat → Int32) (m p : Nat) (hm : m ≤ 8) (c : Int32) (K : post (C, s, nI (m), c, F, st, ops, cs, cells, a, stk)) : wpX_carryOut post (C, s, nI (m), nI p, F, st, ops, cs, cells, a, stk) 8 c := by
  intro x3 e3
  rw [nI_1] at e3
  subst e3
  refine br_f (by decide) (br_f (by decide) (br_f (by decide) (br_f (by decide) (br_f (by decide) (br_f (by decide) (br_f (by decide) (br_f (by decide) (br_f (by decide) (br_f (by decide) (br_t rfl K))))))))))
theorem fg_xo9 (post : SX → Prop) (C s F st : Int32) (ops cs cells a stk : Nat → Int32) (m p : Nat) (hm : m < 8) (c : Int32) (K0 : stk m = 0 → post (C, s, nI (m), c, F, st, ops, cs, cells, a, stk)) (K1 : ¬ stk m = 0 → post (C, s, nI (m), nI (p + 1), F, st, ops, cs, cells, a, stk)) : wpX_carryOut post (C, s, nI (m + 1), nI p, F, st, ops, cs, cells, a, stk) 9 c := by
  intro x3 e3
  rw [nI_1] at e3
  subst e3
  refine br_f (by decide) (br_f (by decide) (br_f (by decide) (br_f (by decide) (br_f (by decide) (br_f (by decide) (br_f (by decide) (br_f (by decide) (br_f (by decide) (br_f (by decide) (br_f (by decide) (br_t rfl (fg_xtake _ _ _ _ _ _ _ _ _ _ _ (m) (by omega) (br_c K0 K1)))))))))))))
theorem fg_xo10 (post : SX → Prop) (C s F st : Int32) (ops cs cells a stk : Nat → Int32) (m p : Nat) (hm : m < 8) (c : Int32) (K0 : stk m ≤ 0 → post (C, s, nI (m), nI (p + 1), F, st, ops, cs, cells, a, stk)) (K1 : ¬ stk m ≤ 0 → post (C, s, nI (m), c, F, st, ops, cs, cells, a, stk)) : wpX_carryOut post (C, s, nI (m + 1), nI p, F, st, ops, cs, cells, a, stk) 10 c := by
  intro x3 e3
  rw [nI_1] at e3
  subst e3
  refine br_f (by decide) (br_f (by decide) (br_f (by decide) (br_f (by decide) (br_f (by decide) (br_f (by decide) (br_f (by decide) (br_f (by decide) (br_f (by decide) (br_f (by decide) (br_f (by decide) (br_f (by decide) (br_t rfl (fg_xtake _ _ _ _ _ _ _ _ _ _ _ (m) (by omega) (br_c K0 K1))))))))))))))
theorem fg_xo11 (post : SX → Prop) (C s F st : Int32) (ops cs cells a stk : Nat → Int32) (m p : Nat) (hm : m < 8) (c : Int32) (K : post (C, s, nI (m + 1), nI (p + 1), F, st, ops, cs, cells, a, (upd stk m (cells (c &&& 3).toNatClampNeg)))) : wpX_carryOut post (C, s, nI (m), nI p, F, st, ops, cs, cells, a, stk) 11 c := by
  intro x3 e3
  rw [nI_1] at e3
  subst e3
  refine br_f (by decide) (br_f (by decide) (br_f (by decide) (br_f (by decide) (br_f (by decide) (br_f (by decide) (br_f (by decide) (br_f (by decide) (br_f (by decide) (br_f (by decide) (br_f (by decide) (br_f (by decide) (br_f (by decide) (br_t rfl ⟨pk_andIn c 2 (by decide) (by omega), (fg_xput _ _ _ _ _ _ _ _ _ _ _ (m) (by omega) _ K)⟩)))))))))))))
theorem fg_xo12 (post : SX → Prop) (C s F st : Int32) (ops cs cells a stk : Nat → Int32) (m p : Nat) (hm : m < 8) (c : Int32) (K : post (C, s, nI (m), nI (p + 1), F, st, ops, cs, (upd cells (c &&& 3).toNatClampNeg (stk m)), a, stk)) : wpX_carryOut post (C, s, nI (m + 1), nI p, F, st, ops, cs, cells, a, stk) 12 c := by
  intro x3 e3
  rw [nI_1] at e3
  subst e3
  refine br_f (by decide) (br_f (by decide) (br_f (by decide) (br_f (by decide) (br_f (by decide) (br_f (by decide) (br_f (by decide) (br_f (by decide) (br_f (by decide) (br_f (by decide) (br_f (by decide) (br_f (by decide) (br_f (by decide) (br_f (by decide) (br_t rfl (fg_xtake _ _ _ _ _ _ _ _ _ _ _ (m) (by omega) ⟨pk_andIn c 2 (by decide) (by omega), nm_e K⟩)))))))))))))))
theorem fg_xo14 (post : SX → Prop) (C s F st : Int32) (ops cs cells a stk : Nat → Int32) (m p : Nat) (hm : m ≤ 8) (c : Int32) (K : post (C, s, nI (m), nI (p + 1), F, st, ops, cs, cells, a, stk)) : wpX_carryOut post (C, s, nI (m), nI p, F, st, ops, cs, cells, a, stk) 14 c := by
  intro x3 e3
  rw [nI_1] at e3
  subst e3
  refine br_f (by decide) (br_f (by decide) (br_f (by decide) (br_f (by decide) (br_f (by decide) (br_f (by decide) (br_f (by decide) (br_f (by decide) (br_f (by decide) (br_f (by decide) (br_f (by decide) (br_f (by decide) (br_f (by decide) (br_f (by decide) (br_f (by decide) (br_f (by decide) (br_t rfl K))))))))))))))))
/-! one instruction: Y -/
theorem fg_yo0 (post : SY → Prop) (C st F : Int32) (ops cs cells b stk : Nat → Int32) (m p : Nat) (hp : p < 24) (eo : ops p = 0) (hm : m < 8) (c : Int32) (ec : cs p = c) (K : post (C, st, F, nI (p + 1), nI (m + 1), ops, cs, cells, b, (upd stk m c))) : wpY_carryOut post (C, st, F, nI p, nI (m), ops, cs, cells, b, stk) := by
  have hi : vp_in (nI p) 24 := vp_in_nI (by omega) (by omega)
  have hc : (nI p).toNatClampNeg = p := nI_clamp (by omega)
  refine ⟨hi, fun x1 e1 => ⟨hi, fun x2 e2 => fun x3 e3 => ?_⟩⟩
  rw [hc] at e1 e2
  rw [nI_1] at e3
  have e1' := e1.trans eo
  have e2' := e2.trans ec
  clear e1 e2
  subst e1' e2' e3
  refine br_t rfl (fg_yput _ _ _ _ _ _ _ _ _ _ (m) (by omega) _ K)
theorem fg_yo1 (post : SY → Prop) (C st F : Int32) (ops cs cells b stk : Nat → Int32) (m p : Nat) (hp : p < 24) (eo : ops p = 1) (hm : m < 8) (c : Int32) (ec : cs p = c) (K : post (C, st, F, nI (p + 1), nI (m), ops, cs, cells, b, stk)) : wpY_carryOut post (C, st, F, nI p, nI (m + 1), ops, cs, cells, b, stk) := by
  have hi : vp_in (nI p) 24 := vp_in_nI (by omega) (by omega)
  have hc : (nI p).toNatClampNeg = p := nI_clamp (by omega)
  refine ⟨hi, fun x1 e1 => ⟨hi, fun x2 e2 => fun x3 e3 => ?_⟩⟩
  rw [hc] at e1 e2
  rw [nI_1] at e3
  have e1' := e1.trans eo
  have e2' := e2.trans ec
  clear e1 e2
  subst e1' e2' e3
  refine br_f (by decide) (br_t rfl (br_f (nI_nle (by omega) (by omega)) (nm_r (nI_pred m) K)))
theorem fg_yo2 (post : SY → Prop) (C st F : Int32) (ops cs cells b stk : Nat → Int32) (m p : Nat) (hp : p < 24) (eo : ops p = 2) (hm : m + 1 < 8) (c : Int32) (ec : cs p = c) (K : post (C, st, F, nI (p + 1), nI (m + 1 + 1), ops, cs, cells, b, (upd stk (m + 1) (stk m)))) : wpY_carryOut post (C, st, F, nI p, nI (m + 1), ops, cs, cells, b, stk) := by
  have hi : vp_in (nI p) 24 := vp_in_nI (by omega) (by omega)
  have hc : (nI p).toNatClampNeg = p := nI_clamp (by omega)
  refine ⟨hi, fun x1 e1 => ⟨hi, fun x2 e2 => fun x3 e3 => ?_⟩⟩
  rw [hc] at e1 e2
  rw [nI_1] at e3
  have e1' := e1.trans eo
  have e2' := e2.trans ec
  clear e1 e2
  subst e1' e2' e3
  refine br_f (by decide) (br_f (by decide) (br_t rfl ?_))
  have ei : (nI (m + 1) - 1) - 0 = nI m := by rw [nI_pred]; exact Int32.sub_zero _
  refine br_f (by decide) (br_t (nI_lt (a := 0) (by omega) (by omega)) ?_)
  rw [ei, nI_clamp (by omega)]
  exact ⟨vp_in_nI (by omega) (by omega), (fg_yput _ _ _ _ _ _ _ _ _ _ (m + 1) (by omega) _ K)⟩
theorem fg_yo3 (post : SY → Prop) (C st F : Int32) (ops cs cells b stk : Nat → Int32) (m p : Nat) (hp : p < 24) (eo : ops p = 3) (hm : m + 1 < 8) (c : Int32) (ec : cs p = c) (K : post (C, st, F, nI (p + 1), nI (m + 1), ops, cs, cells, b, (upd stk m (stk m + stk (m + 1))))) : wpY_carryOut post (C, st, F, nI p, nI (m + 1 + 1), ops, cs, cells, b, stk) := by
  have hi : vp_in (nI p) 24 := vp_in_nI (by omega) (by omega)
  have hc : (nI p).toNatClampNeg = p := nI_clamp (by omega)
  refine ⟨hi, fun x1 e1 => ⟨hi, fun x2 e2 => fun x3 e3 => ?_⟩⟩
  rw [hc] at e1 e2
  rw [nI_1] at e3
  have e1' := e1.trans eo
  have e2' := e2.trans ec
  clear e1 e2
  subst e1' e2' e3
  refine br_f (by decide) (br_f (by decide) (br_f (by decide) (br_f (by decide) ?_)))
  unfold wpY_two
  exact (fg_ytake _ _ _ _ _ _ _ _ _ _ (m + 1) (by omega) (fg_ytake _ _ _ _ _ _ _ _ _ _ (m) (by omega) (br_t rfl (fg_yput _ _ _ _ _ _ _ _ _ _ (m) (by omega) _ K))))
theorem fg_yo4 (post : SY → Prop) (C st F : Int32) (ops cs cells b stk : Nat → Int32) (m p : Nat) (hp : p < 24) (eo : ops p = 4) (hm : m + 1 < 8) (c : Int32) (ec : cs p = c) (K : post (C, st, F, nI (p + 1), nI (m + 1), ops, cs, cells, b, (upd stk m (stk m - stk (m + 1))))) : wpY_carryOut post (C, st, F, nI p, nI (m + 1 + 1), ops, cs, cells, b, stk) := by
  have hi : vp_in (nI p) 24 := vp_in_nI (by omega) (by omega)
  have hc : (nI p).toNatClampNeg = p := nI_clamp (by omega)
  refine ⟨hi, fun x1 e1 => ⟨hi, fun x2 e2 => fun x3 e3 => ?_⟩⟩
  rw [hc] at e1 e2
  rw [nI_1] at e3
  have e1' := e1.trans eo
  have e2' := e2.trans ec
  clear e1 e2
  subst e1' e2' e3
  refine br_f (by decide) (br_f (by decide) (br_f (by decide) (br_f (by decide) ?_)))
  unfold wpY_two
  exact (fg_ytake _ _ _ _ _ _ _ _ _ _ (m + 1) (by omega) (fg_ytake _ _ _ _ _ _ _ _ _ _ (m) (by omega) (br_f (by decide) (br_t rfl (fg_yput _ _ _ _ _ _ _ _ _ _ (m) (by omega) _ K)))))
theorem fg_yo5 (post : SY → Prop) (C st F : Int32) (ops cs cells b stk : Nat → Int32) (m p : Nat) (hp : p < 24) (eo : ops p = 5) (hm : m + 1 < 8) (c : Int32) (ec : cs p = c) (K : post (C, st, F, nI (p + 1), nI (m + 1), ops, cs, cells, b, (upd stk m (stk m * stk (m + 1))))) : wpY_carryOut post (C, st, F, nI p, nI (m + 1 + 1), ops, cs, cells, b, stk) := by
  have hi : vp_in (nI p) 24 := vp_in_nI (by omega) (by omega)
  have hc : (nI p).toNatClampNeg = p := nI_clamp (by omega)
  refine ⟨hi, fun x1 e1 => ⟨hi, fun x2 e2 => fun x3 e3 => ?_⟩⟩
  rw [hc] at e1 e2
  rw [nI_1] at e3
  have e1' := e1.trans eo
  have e2' := e2.trans ec
  clear e1 e2
  subst e1' e2' e3
  refine br_f (by decide) (br_f (by decide) (br_f (by decide) (br_f (by decide) ?_)))
  unfold wpY_two
  exact (fg_ytake _ _ _ _ _ _ _ _ _ _ (m + 1) (by omega) (fg_ytake _ _ _ _ _ _ _ _ _ _ (m) (by omega) (br_f (by decide) (br_f (by decide) (br_t rfl (fg_yput _ _ _ _ _ _ _ _ _ _ (m) (by omega) _ K))))))
theorem fg_yo6 (post : SY → Prop) (C st F : Int32) (ops cs cells b stk : Nat → Int32) (m p : Nat) (hp : p < 24) (eo : ops p = 6) (hm : m + 1 < 8) (c : Int32) (ec : cs p = c) (K : post (C, st, F, nI (p + 1), nI (m + 1 + 1), ops, cs, cells, b, (upd (upd stk m (stk (m + 1))) (m + 1) (stk m)))) : wpY_carryOut post (C, st, F, nI p, nI (m + 1 + 1), ops, cs, cells, b, stk) := by
  have hi : vp_in (nI p) 24 := vp_in_nI (by omega) (by omega)
  have hc : (nI p).toNatClampNeg = p := nI_clamp (by omega)
  refine ⟨hi, fun x1 e1 => ⟨hi, fun x2 e2 => fun x3 e3 => ?_⟩⟩
  rw [hc] at e1 e2
  rw [nI_1] at e3
  have e1' := e1.trans eo
  have e2' := e2.trans ec
  clear e1 e2
  subst e1' e2' e3
  refine br_f (by decide) (br_f (by decide) (br_f (by decide) (br_f (by decide) ?_)))
  unfold wpY_two
  exact (fg_ytake _ _ _ _ _ _ _ _ _ _ (m + 1) (by omega) (fg_ytake _ _ _ _ _ _ _ _ _ _ (m) (by omega) (br_f (by decide) (br_f (by decide) (br_f (by decide) (br_t rfl (fg_yput _ _ _ _ _ _ _ _ _ _ (m) (by omega) _ (fg_yput _ _ _ _ _ _ _ _ _ _ (m + 1) (by omega) _ K))))))))
theorem fg_yo7 (post : SY → Prop) (C st F : Int32) (ops cs cells b stk : Nat → Int32) (m p : Nat) (hp : p < 24) (eo : ops p = 7) (hm : m + 2 < 8) (c : Int32) (ec : cs p = c) (K : post (C, st, F, nI (p + 1), nI (m + 1 + 1 + 1), ops, cs, cells, b, (upd (upd (upd stk m (stk m)) (m + 1) (stk (m + 1))) (m + 1 + 1) (stk m)))) : wpY_carryOut post (C, st, F, nI p, nI (m + 1 + 1), ops, cs, cells, b, stk) := by
  have hi : vp_in (nI p) 24 := vp_in_nI (by omega) (by omega)
  have hc : (nI p).toNatClampNeg = p := nI_clamp (by omega)
  refine ⟨hi, fun x1 e1 => ⟨hi, fun x2 e2 => fun x3 e3 => ?_⟩⟩
  rw [hc] at e1 e2
  rw [nI_1] at e3
  have e1' := e1.trans eo
  have e2' := e2.trans ec
  clear e1 e2
  subst e1' e2' e3
  refine br_f (by decide) (br_f (by decide) (br_f (by decide) (br_f (by decide) ?_)))
  unfold wpY_two
  exact (fg_ytake _ _ _ _ _ _ _ _ _ _ (m + 1) (by omega) (fg_ytake _ _ _ _ _ _ _ _ _ _ (m) (by omega) (br_f (by decide) (br_f (by decide) (br_f (by decide) (br_f (by decide) (fg_yput _ _ _ _ _ _ _ _ _ _ (m) (by omega) _ (fg_yput _ _ _ _ _ _ _ _ _ _ (m + 1) (by omega) _ (fg_yput _ _ _ _ _ _ _ _ _ _ (m + 1 + 1) (by omega) _ K)))))))))
theorem fg_yo8 (post : SY → Prop) (C st F : Int32) (ops cs cells b stk : Nat → Int32) (m p : Nat) (hp : p < 24) (eo : ops p = 8) (hm : m ≤ 8) (c : Int32) (ec : cs p = c) (K : post (C, st, F, c, nI (m), ops, cs, cells, b, stk)) : wpY_carryOut post (C, st, F, nI p, nI (m), ops, cs, cells, b, stk) := by
  have hi : vp_in (nI p) 24 := vp_in_nI (by omega) (by omega)
  have hc : (nI p).toNatClampNeg = p := nI_clamp (by omega)
  refine ⟨hi, fun x1 e1 => ⟨hi, fun x2 e2 => fun x3 e3 => ?_⟩⟩
  rw [hc] at e1 e2
  rw [nI_1] at e3
  have e1' := e1.trans eo
  have e2' := e2.trans ec
  clear e1 e2
  subst e1' e2' e3
  refine br_f (by decide) (br_f (by decide) (br_f (by decide) (br_t (by decide) (br_t rfl K))))
theorem fg_yo9 (post : SY → Prop) (C st F : Int32) (ops cs cells b stk : Nat → Int32) (m p : Nat) (hp : p < 24) (eo : ops p = 9) (hm : m < 8) (c : Int32) (ec : cs p = c) (K0 : stk m = 0 → post (C, st, F, c, nI (m), ops, cs, cells, b, stk)) (K1 : ¬ stk m = 0 → post (C, st, F, nI (p + 1), nI (m), ops, cs, cells, b, stk)) : wpY_carryOut post (C, st, F, nI p, nI (m + 1), ops, cs, cells, b, stk) := by
  have hi : vp_in (nI p) 24 := vp_in_nI (by omega) (by omega)
  have hc : (nI p).toNatClampNeg = p := nI_clamp (by omega)
  refine ⟨hi, fun x1 e1 => ⟨hi, fun x2 e2 => fun x3 e3 => ?_⟩⟩
  rw [hc] at e1 e2
  rw [nI_1] at e3
  have e1' := e1.trans eo
  have e2' := e2.trans ec
  clear e1 e2
  subst e1' e2' e3
  refine br_f (by decide) (br_f (by decide) (br_f (by decide) (br_t (by decide) (br_f (by decide) (br_t rfl (fg_ytake _ _ _ _ _ _ _ _ _ _ (m) (by omega) (br_c K0 K1)))))))
theorem fg_yo10 (post : SY → Prop) (C st F : Int32) (ops cs cells b stk : Nat → Int32) (m p : Nat) (hp : p < 24) (eo : ops p = 10) (hm : m < 8) (c : Int32) (ec : cs p = c) (K0 : stk m ≤ 0 → post (C, st, F, nI (p + 1), nI (m), ops, cs, cells, b, stk)) (K1 : ¬ stk m ≤ 0 → post (C, st, F, c, nI (m), ops, cs, cells, b, stk)) : wpY_carryOut post (C, st, F, nI p, nI (m + 1), ops, cs, cells, b, stk) := by
  have hi : vp_in (nI p) 24 := vp_in_nI (by omega) (by omega)
  have hc : (nI p).toNatClampNeg = p := nI_clamp (by omega)
  refine ⟨hi, fun x1 e1 => ⟨hi, fun x2 e2 => fun x3 e3 => ?_⟩⟩
  rw [hc] at e1 e2
  rw [nI_1] at e3
  have e1' := e1.trans eo
  have e2' := e2.trans ec
  clear e1 e2
  subst e1' e2' e3
  refine br_f (by decide) (br_f (by decide) (br_f (by decide) (br_t (by decide) (br_f (by decide) (br_f (by decide) (br_t rfl (fg_ytake _ _ _ _ _ _ _ _ _ _ (m) (by omega) (br_c K0 K1))))))))
theorem fg_yo11 (post : SY → Prop) (C st F : Int32) (ops cs cells b stk : Nat → Int32) (m p : Nat) (hp : p < 24) (eo : ops p = 11) (hm : m < 8) (c : Int32) (ec : cs p = c) (K : post (C, st, F, nI (p + 1), nI (m + 1), ops, cs, cells, b, (upd stk m (cells (c &&& 3).toNatClampNeg)))) : wpY_carryOut post (C, st, F, nI p, nI (m), ops, cs, cells, b, stk) := by
  have hi : vp_in (nI p) 24 := vp_in_nI (by omega) (by omega)
  have hc : (nI p).toNatClampNeg = p := nI_clamp (by omega)
  refine ⟨hi, fun x1 e1 => ⟨hi, fun x2 e2 => fun x3 e3 => ?_⟩⟩
  rw [hc] at e1 e2
  rw [nI_1] at e3
  have e1' := e1.trans eo
  have e2' := e2.trans ec
  clear e1 e2
  subst e1' e2' e3
  refine br_f (by decide) (br_f (by decide) (br_f (by decide) (br_t (by decide) (br_f (by decide) (br_f (by decide) (br_f (by decide) (br_t rfl ⟨pk_andIn _ 2 (by decide) (by omega), (fg_yput _ _ _ _ _ _ _ _ _ _ (m) (by omega) _ K)⟩)))))))
theorem fg_yo12 (post : SY → Prop) (C st F : Int32) (ops cs cells b stk : Nat → Int32) (m p : Nat) (hp : p < 24) (eo : ops p = 12) (hm : m < 8) (c : Int32) (ec : cs p = c) (K : post (C, st, F, nI (p + 1), nI (m), ops, cs, (upd cells (c &&& 3).toNatClampNeg (stk m)), b, stk)) : wpY_carryOut post (C, st, F, nI p, nI (m + 1), ops, cs, cells, b, stk) := by
  have hi : vp_in (nI p) 24 := vp_in_nI (by omega) (by omega)
  have hc : (nI p).toNatClampNeg = p := nI_clamp (by omega)
  refine ⟨hi, fun x1 e1 => ⟨hi, fun x2 e2 => fun x3 e3 => ?_⟩⟩
  rw [hc] at e1 e2
  rw [nI_1] at e3
  have e1' := e1.trans eo
  have e2' := e2.trans ec
  clear e1 e2
  subst e1' e2' e3
  refine br_f (by decide) (br_f (by decide) (br_f (by decide) (br_t (by decide) (br_f (by decide) (br_f (by decide) (br_f (by decide) (br_f (by decide) (br_t rfl (fg_ytake _ _ _ _ _ _ _ _ _ _ (m) (by omega) ⟨pk_andIn _ 2 (by decide) (by omega), nm_e K⟩)))))))))
theorem fg_yo14 (post : SY → Prop) (C st F : Int32) (ops cs cells b stk : Nat → Int32) (m p : Nat) (hp : p < 24) (eo : ops p = 14) (hm : m ≤ 8) (c : Int32) (ec : cs p = c) (K : post (C, st, F, nI (p + 1), nI (m), ops, cs, cells, b, stk)) : wpY_carryOut post (C, st, F, nI p, nI (m), ops, cs, cells, b, stk) := by
  have hi : vp_in (nI p) 24 := vp_in_nI (by omega) (by omega)
  have hc : (nI p).toNatClampNeg = p := nI_clamp (by omega)
  refine ⟨hi, fun x1 e1 => ⟨hi, fun x2 e2 => fun x3 e3 => ?_⟩⟩
  rw [hc] at e1 e2
  rw [nI_1] at e3
  have e1' := e1.trans eo
  have e2' := e2.trans ec
  clear e1 e2
  subst e1' e2' e3
  refine br_f (by decide) (br_f (by decide) (br_f (by decide) (br_t (by decide) (br_f (by decide) (br_f (by decide) (br_f (by decide) (br_f (by decide) (br_f (by decide) (K)))))))))
/-! one instruction: both sides end alike, at a place whose height is the stack's -/
theorem fg_tg_eq {c : Int32} {n : Nat} (hn : n ≤ 24) (h : fg_tg c < n) : c = nI (fg_tg c) := by
  unfold fg_tg at h ⊢
  by_cases c0 : c < 0
  · rw [if_pos c0] at h
    omega
  · obtain ⟨j, hj, rfl⟩ := nI_of c0
    rw [if_neg c0, nI_clamp hj]
def fg_Both (n : Nat) (ops cs : Nat → Int32) (H : Nat → Option Nat) (p h : Nat) (cells stk : Nat → Int32) : Prop := ∃ (p' h' : Nat) (cells' stk' : Nat → Int32), H p' = some h' ∧ (∀ (post : SX → Prop) (s F st : Int32) (a : Nat → Int32), post (nI n, s, nI h', nI p', F, st, ops, cs, cells', a, stk') → wpX_carryOut post (nI n, s, nI h, nI p, F, st, ops, cs, cells, a, stk) (ops p) (cs p)) ∧ (∀ (post : SY → Prop) (st F : Int32) (b : Nat → Int32), post (nI n, st, F, nI p', nI h', ops, cs, cells', b, stk') → wpY_carryOut post (nI n, st, F, nI p, nI h, ops, cs, cells, b, stk))
theorem fg_b0 {n : Nat} (hn : n ≤ 24) {ops cs : Nat → Int32} {H : Nat → Option Nat} (S : fg_Snd n ops cs H) (p h : Nat) (eh : H p = some h) (eo : ops p = 0) (cells stk : Nat → Int32) : fg_Both n ops cs H p h cells stk := by
  obtain ⟨ok, _, _, S4⟩ := S
  obtain ⟨hp, h8⟩ := ok p h eh
  obtain ⟨f1, f2, f3, f4⟩ := S4 p h eh
  rw [eo] at f1 f2 f3 f4
  have e1 : fg_nd 0 = 0 := by decide +kernel
  have e2 : fg_bh 0 h = h + 1 := by simp [fg_bh]
  rw [e1] at f1
  rw [e2] at f2 f3 f4
  obtain ⟨m, rfl⟩ : ∃ m, m = h := ⟨h, rfl⟩
  have nx := f3 (by decide)
  refine ⟨p + 1, m + 1, cells, (upd stk m (cs p)), nx, fun post s F st a K => ?_, fun post st F b K => ?_⟩
  · rw [eo]
    exact fg_xo0 post (nI n) s F st ops cs cells a stk m p (by omega) (cs p) K
  · exact fg_yo0 post (nI n) st F ops cs cells b stk m p (by omega) eo (by omega) (cs p) rfl K
theorem fg_b1 {n : Nat} (hn : n ≤ 24) {ops cs : Nat → Int32} {H : Nat → Option Nat} (S : fg_Snd n ops cs H) (p h : Nat) (eh : H p = some h) (eo : ops p = 1) (cells stk : Nat → Int32) : fg_Both n ops cs H p h cells stk := by
  obtain ⟨ok, _, _, S4⟩ := S
  obtain ⟨hp, h8⟩ := ok p h eh
  obtain ⟨f1, f2, f3, f4⟩ := S4 p h eh
  rw [eo] at f1 f2 f3 f4
  have e1 : fg_nd 1 = 1 := by decide +kernel
  have e2 : fg_bh 1 h = h - 1 := by simp [fg_bh]
  rw [e1] at f1
  rw [e2] at f2 f3 f4
  obtain ⟨m, rfl⟩ : ∃ m, h = m + 1 := ⟨h - 1, by omega⟩
  have nx := f3 (by decide)
  refine ⟨p + 1, m, cells, stk, nx, fun post s F st a K => ?_, fun post st F b K => ?_⟩
  · rw [eo]
    exact fg_xo1 post (nI n) s F st ops cs cells a stk m p (by omega) (cs p) K
  · exact fg_yo1 post (nI n) st F ops cs cells b stk m p (by omega) eo (by omega) (cs p) rfl K
theorem fg_b2 {n : Nat} (hn : n ≤ 24) {ops cs : Nat → Int32} {H : Nat → Option Nat} (S : fg_Snd n ops cs H) (p h : Nat) (eh : H p = some h) (eo : ops p = 2) (cells stk : Nat → Int32) : fg_Both n ops cs H p h cells stk := by
  obtain ⟨ok, _, _, S4⟩ := S
  obtain ⟨hp, h8⟩ := ok p h eh
  obtain ⟨f1, f2, f3, f4⟩ := S4 p h eh
  rw [eo] at f1 f2 f3 f4
  have e1 : fg_nd 2 = 1 := by decide +kernel
  have e2 : fg_bh 2 h = h + 1 := by simp [fg_bh]
  rw [e1] at f1
  rw [e2] at f2 f3 f4
  obtain ⟨m, rfl⟩ : ∃ m, h = m + 1 := ⟨h - 1, by omega⟩
  have nx := f3 (by decide)
  refine ⟨p + 1, m + 1 + 1, cells, (upd stk (m + 1) (stk m)), nx, fun post s F st a K => ?_, fun post st F b K => ?_⟩
  · rw [eo]
    exact fg_xo2 post (nI n) s F st ops cs cells a stk m p (by omega) (cs p) K
  · exact fg_yo2 post (nI n) st F ops cs cells b stk m p (by omega) eo (by omega) (cs p) rfl K
theorem fg_b3 {n : Nat} (hn : n ≤ 24) {ops cs : Nat → Int32} {H : Nat → Option Nat} (S : fg_Snd n ops cs H) (p h : Nat) (eh : H p = some h) (eo : ops p = 3) (cells stk : Nat → Int32) : fg_Both n ops cs H p h cells stk := by
  obtain ⟨ok, _, _, S4⟩ := S
  obtain ⟨hp, h8⟩ := ok p h eh
  obtain ⟨f1, f2, f3, f4⟩ := S4 p h eh
  rw [eo] at f1 f2 f3 f4
  have e1 : fg_nd 3 = 2 := by decide +kernel
  have e2 : fg_bh 3 h = h - 1 := by simp [fg_bh]
  rw [e1] at f1
  rw [e2] at f2 f3 f4
  obtain ⟨m, rfl⟩ : ∃ m, h = m + 1 + 1 := ⟨h - 2, by omega⟩
  have nx := f3 (by decide)
  refine ⟨p + 1, m + 1, cells, (upd stk m (stk m + stk (m + 1))), nx, fun post s F st a K => ?_, fun post st F b K => ?_⟩
  · rw [eo]
    exact fg_xo3 post (nI n) s F st ops cs cells a stk m p (by omega) (cs p) K
  · exact fg_yo3 post (nI n) st F ops cs cells b stk m p (by omega) eo (by omega) (cs p) rfl K
theorem fg_b4 {n : Nat} (hn : n ≤ 24) {ops cs : Nat → Int32} {H : Nat → Option Nat} (S : fg_Snd n ops cs H) (p h : Nat) (eh : H p = some h) (eo : ops p = 4) (cells stk : Nat → Int32) : fg_Both n ops cs H p h cells stk := by
  obtain ⟨ok, _, _, S4⟩ := S
  obtain ⟨hp, h8⟩ := ok p h eh
  obtain ⟨f1, f2, f3, f4⟩ := S4 p h eh
  rw [eo] at f1 f2 f3 f4
  have e1 : fg_nd 4 = 2 := by decide +kernel
  have e2 : fg_bh 4 h = h - 1 := by simp [fg_bh]
  rw [e1] at f1
  rw [e2] at f2 f3 f4
  obtain ⟨m, rfl⟩ : ∃ m, h = m + 1 + 1 := ⟨h - 2, by omega⟩
  have nx := f3 (by decide)
  refine ⟨p + 1, m + 1, cells, (upd stk m (stk m - stk (m + 1))), nx, fun post s F st a K => ?_, fun post st F b K => ?_⟩
  · rw [eo]
    exact fg_xo4 post (nI n) s F st ops cs cells a stk m p (by omega) (cs p) K
  · exact fg_yo4 post (nI n) st F ops cs cells b stk m p (by omega) eo (by omega) (cs p) rfl K
theorem fg_b5 {n : Nat} (hn : n ≤ 24) {ops cs : Nat → Int32} {H : Nat → Option Nat} (S : fg_Snd n ops cs H) (p h : Nat) (eh : H p = some h) (eo : ops p = 5) (cells stk : Nat → Int32) : fg_Both n ops cs H p h cells stk := by
  obtain ⟨ok, _, _, S4⟩ := S
  obtain ⟨hp, h8⟩ := ok p h eh
  obtain ⟨f1, f2, f3, f4⟩ := S4 p h eh
  rw [eo] at f1 f2 f3 f4
  have e1 : fg_nd 5 = 2 := by decide +kernel
  have e2 : fg_bh 5 h = h - 1 := by simp [fg_bh]
  rw [e1] at f1
  rw [e2] at f2 f3 f4
  obtain ⟨m, rfl⟩ : ∃ m, h = m + 1 + 1 := ⟨h - 2, by omega⟩
  have nx := f3 (by decide)
  refine ⟨p + 1, m + 1, cells, (upd stk m (stk m * stk (m + 1))), nx, fun post s F st a K => ?_, fun post st F b K => ?_⟩
  · rw [eo]
    exact fg_xo5 post (nI n) s F st ops cs cells a stk m p (by omega) (cs p) K
  · exact fg_yo5 post (nI n) st F ops cs cells b stk m p (by omega) eo (by omega) (cs p) rfl K
theorem fg_b6 {n : Nat} (hn : n ≤ 24) {ops cs : Nat → Int32} {H : Nat → Option Nat} (S : fg_Snd n ops cs H) (p h : Nat) (eh : H p = some h) (eo : ops p = 6) (cells stk : Nat → Int32) : fg_Both n ops cs H p h cells stk := by
  obtain ⟨ok, _, _, S4⟩ := S
  obtain ⟨hp, h8⟩ := ok p h eh
  obtain ⟨f1, f2, f3, f4⟩ := S4 p h eh
  rw [eo] at f1 f2 f3 f4
  have e1 : fg_nd 6 = 2 := by decide +kernel
  have e2 : fg_bh 6 h = h := by simp [fg_bh]
  rw [e1] at f1
  rw [e2] at f2 f3 f4
  obtain ⟨m, rfl⟩ : ∃ m, h = m + 1 + 1 := ⟨h - 2, by omega⟩
  have nx := f3 (by decide)
  refine ⟨p + 1, m + 1 + 1, cells, (upd (upd stk m (stk (m + 1))) (m + 1) (stk m)), nx, fun post s F st a K => ?_, fun post st F b K => ?_⟩
  · rw [eo]
    exact fg_xo6 post (nI n) s F st ops cs cells a stk m p (by omega) (cs p) K
  · exact fg_yo6 post (nI n) st F ops cs cells b stk m p (by omega) eo (by omega) (cs p) rfl K
theorem fg_b7 {n : Nat} (hn : n ≤ 24) {ops cs : Nat → Int32} {H : Nat → Option Nat} (S : fg_Snd n ops cs H) (p h : Nat) (eh : H p = some h) (eo : ops p = 7) (cells stk : Nat → Int32) : fg_Both n ops cs H p h cells stk := by
  obtain ⟨ok, _, _, S4⟩ := S
  obtain ⟨hp, h8⟩ := ok p h eh
  obtain ⟨f1, f2, f3, f4⟩ := S4 p h eh
  rw [eo] at f1 f2 f3 f4
  have e1 : fg_nd 7 = 2 := by decide +kernel
  have e2 : fg_bh 7 h = h + 1 := by simp [fg_bh]
  rw [e1] at f1
  rw [e2] at f2 f3 f4
  obtain ⟨m, rfl⟩ : ∃ m, h = m + 1 + 1 := ⟨h - 2, by omega⟩
  have nx := f3 (by decide)
  refine ⟨p + 1, m + 1 + 1 + 1, cells, (upd (upd (upd stk m (stk m)) (m + 1) (stk (m + 1))) (m + 1 + 1) (stk m)), nx, fun post s F st a K => ?_, fun post st F b K => ?_⟩
  · rw [eo]
    exact fg_xo7 post (nI n) s F st ops cs cells a stk m p (by omega) (cs p) K
  · exact fg_yo7 post (nI n) st F ops cs cells b stk m p (by omega) eo (by omega) (cs p) rfl K
theorem fg_b8 {n : Nat} (hn : n ≤ 24) {ops cs : Nat → Int32} {H : Nat → Option Nat} (S : fg_Snd n ops cs H) (p h : Nat) (eh : H p = some h) (eo : ops p = 8) (cells stk : Nat → Int32) : fg_Both n ops cs H p h cells stk := by
  obtain ⟨ok, _, _, S4⟩ := S
  obtain ⟨hp, h8⟩ := ok p h eh
  obtain ⟨f1, f2, f3, f4⟩ := S4 p h eh
  rw [eo] at f1 f2 f3 f4
  have e1 : fg_nd 8 = 0 := by decide +kernel
  have e2 : fg_bh 8 h = h := by simp [fg_bh]
  rw [e1] at f1
  rw [e2] at f2 f3 f4
  obtain ⟨m, rfl⟩ : ∃ m, m = h := ⟨h, rfl⟩
  obtain ⟨t1, t2⟩ := f4 (by decide)
  have t3 := fg_tg_eq hn t1
  refine ⟨fg_tg (cs p), m, cells, stk, t2, fun post s F st a K => ?_, fun post st F b K => ?_⟩
  · rw [← t3] at K
    rw [eo]
    exact fg_xo8 post (nI n) s F st ops cs cells a stk m p (by omega) (cs p) K
  · rw [← t3] at K
    exact fg_yo8 post (nI n) st F ops cs cells b stk m p (by omega) eo (by omega) (cs p) rfl K
theorem fg_b9 {n : Nat} (hn : n ≤ 24) {ops cs : Nat → Int32} {H : Nat → Option Nat} (S : fg_Snd n ops cs H) (p h : Nat) (eh : H p = some h) (eo : ops p = 9) (cells stk : Nat → Int32) : fg_Both n ops cs H p h cells stk := by
  obtain ⟨ok, _, _, S4⟩ := S
  obtain ⟨hp, h8⟩ := ok p h eh
  obtain ⟨f1, f2, f3, f4⟩ := S4 p h eh
  rw [eo] at f1 f2 f3 f4
  have e1 : fg_nd 9 = 1 := by decide +kernel
  have e2 : fg_bh 9 h = h - 1 := by simp [fg_bh]
  rw [e1] at f1
  rw [e2] at f2 f3 f4
  obtain ⟨m, rfl⟩ : ∃ m, h = m + 1 := ⟨h - 1, by omega⟩
  have nx := f3 (by decide)
  obtain ⟨t1, t2⟩ := f4 (by decide)
  have t3 := fg_tg_eq hn t1
  by_cases z : stk m = 0
  · refine ⟨fg_tg (cs p), m, cells, stk, t2, fun post s F st a K => ?_, fun post st F b K => ?_⟩
    · rw [← t3] at K
      rw [eo]
      exact fg_xo9 post (nI n) s F st ops cs cells a stk m p (by omega) (cs p) (fun _ => K) (fun w => absurd z w)
    · rw [← t3] at K
      exact fg_yo9 post (nI n) st F ops cs cells b stk m p (by omega) eo (by omega) (cs p) rfl (fun _ => K) (fun w => absurd z w)
  · refine ⟨p + 1, m, cells, stk, nx, fun post s F st a K => ?_, fun post st F b K => ?_⟩
    · rw [eo]
      exact fg_xo9 post (nI n) s F st ops cs cells a stk m p (by omega) (cs p) (fun w => absurd w z) (fun _ => K)
    · exact fg_yo9 post (nI n) st F ops cs cells b stk m p (by omega) eo (by omega) (cs p) rfl (fun w => absurd w z) (fun _ => K)
theorem fg_b10 {n : Nat} (hn : n ≤ 24) {ops cs : Nat → Int32} {H : Nat → Option Nat} (S : fg_Snd n ops cs H) (p h : Nat) (eh : H p = some h) (eo : ops p = 10) (cells stk : Nat → Int32) : fg_Both n ops cs H p h cells stk := by
  obtain ⟨ok, _, _, S4⟩ := S
  obtain ⟨hp, h8⟩ := ok p h eh
  obtain ⟨f1, f2, f3, f4⟩ := S4 p h eh
  rw [eo] at f1 f2 f3 f4
  have e1 : fg_nd 10 = 1 := by decide +kernel
  have e2 : fg_bh 10 h = h - 1 := by simp [fg_bh]
  rw [e1] at f1
  rw [e2] at f2 f3 f4
  obtain ⟨m, rfl⟩ : ∃ m, h = m + 1 := ⟨h - 1, by omega⟩
  have nx := f3 (by decide)
  obtain ⟨t1, t2⟩ := f4 (by decide)
  have t3 := fg_tg_eq hn t1
  by_cases z : stk m ≤ 0
  · refine ⟨p + 1, m, cells, stk, nx, fun post s F st a K => ?_, fun post st F b K => ?_⟩
    · rw [eo]
      exact fg_xo10 post (nI n) s F st ops cs cells a stk m p (by omega) (cs p) (fun _ => K) (fun w => absurd z w)
    · exact fg_yo10 post (nI n) st F ops cs cells b stk m p (by omega) eo (by omega) (cs p) rfl (fun _ => K) (fun w => absurd z w)
  · refine ⟨fg_tg (cs p), m, cells, stk, t2, fun post s F st a K => ?_, fun post st F b K => ?_⟩
    · rw [← t3] at K
      rw [eo]
      exact fg_xo10 post (nI n) s F st ops cs cells a stk m p (by omega) (cs p) (fun w => absurd w z) (fun _ => K)
    · rw [← t3] at K
      exact fg_yo10 post (nI n) st F ops cs cells b stk m p (by omega) eo (by omega) (cs p) rfl (fun w => absurd w z) (fun _ => K)
theorem fg_b11 {n : Nat} (hn : n ≤ 24) {ops cs : Nat → Int32} {H : Nat → Option Nat} (S : fg_Snd n ops cs H) (p h : Nat) (eh : H p = some h) (eo : ops p = 11) (cells stk : Nat → Int32) : fg_Both n ops cs H p h cells stk := by
  obtain ⟨ok, _, _, S4⟩ := S
  obtain ⟨hp, h8⟩ := ok p h eh
  obtain ⟨f1, f2, f3, f4⟩ := S4 p h eh
  rw [eo] at f1 f2 f3 f4
  have e1 : fg_nd 11 = 0 := by decide +kernel
  have e2 : fg_bh 11 h = h + 1 := by simp [fg_bh]
  rw [e1] at f1
  rw [e2] at f2 f3 f4
  obtain ⟨m, rfl⟩ : ∃ m, m = h := ⟨h, rfl⟩
  have nx := f3 (by decide)
  refine ⟨p + 1, m + 1, cells, (upd stk m (cells (cs p &&& 3).toNatClampNeg)), nx, fun post s F st a K => ?_, fun post st F b K => ?_⟩
  · rw [eo]
    exact fg_xo11 post (nI n) s F st ops cs cells a stk m p (by omega) (cs p) K
  · exact fg_yo11 post (nI n) st F ops cs cells b stk m p (by omega) eo (by omega) (cs p) rfl K
theorem fg_b12 {n : Nat} (hn : n ≤ 24) {ops cs : Nat → Int32} {H : Nat → Option Nat} (S : fg_Snd n ops cs H) (p h : Nat) (eh : H p = some h) (eo : ops p = 12) (cells stk : Nat → Int32) : fg_Both n ops cs H p h cells stk := by
  obtain ⟨ok, _, _, S4⟩ := S
  obtain ⟨hp, h8⟩ := ok p h eh
  obtain ⟨f1, f2, f3, f4⟩ := S4 p h eh
  rw [eo] at f1 f2 f3 f4
  have e1 : fg_nd 12 = 1 := by decide +kernel
  have e2 : fg_bh 12 h = h - 1 := by simp [fg_bh]
  rw [e1] at f1
  rw [e2] at f2 f3 f4
  obtain ⟨m, rfl⟩ : ∃ m, h = m + 1 := ⟨h - 1, by omega⟩
  have nx := f3 (by decide)
  refine ⟨p + 1, m, (upd cells (cs p &&& 3).toNatClampNeg (stk m)), stk, nx, fun post s F st a K => ?_, fun post st F b K => ?_⟩
  · rw [eo]
    exact fg_xo12 post (nI n) s F st ops cs cells a stk m p (by omega) (cs p) K
  · exact fg_yo12 post (nI n) st F ops cs cells b stk m p (by omega) eo (by omega) (cs p) rfl K
theorem fg_b14 {n : Nat} (hn : n ≤ 24) {ops cs : Nat → Int32} {H : Nat → Option Nat} (S : fg_Snd n ops cs H) (p h : Nat) (eh : H p = some h) (eo : ops p = 14) (cells stk : Nat → Int32) : fg_Both n ops cs H p h cells stk := by
  obtain ⟨ok, _, _, S4⟩ := S
  obtain ⟨hp, h8⟩ := ok p h eh
  obtain ⟨f1, f2, f3, f4⟩ := S4 p h eh
  rw [eo] at f1 f2 f3 f4
  have e1 : fg_nd 14 = 0 := by decide +kernel
  have e2 : fg_bh 14 h = h := by simp [fg_bh]
  rw [e1] at f1
  rw [e2] at f2 f3 f4
  obtain ⟨m, rfl⟩ : ∃ m, m = h := ⟨h, rfl⟩
  have nx := f3 (by decide)
  refine ⟨p + 1, m, cells, stk, nx, fun post s F st a K => ?_, fun post st F b K => ?_⟩
  · rw [eo]
    exact fg_xo14 post (nI n) s F st ops cs cells a stk m p (by omega) (cs p) K
  · exact fg_yo14 post (nI n) st F ops cs cells b stk m p (by omega) eo (by omega) (cs p) rfl K
theorem fg_both {n : Nat} (hn : n ≤ 24) {ops cs : Nat → Int32} {H : Nat → Option Nat} (S : fg_Snd n ops cs H) (p h : Nat) (eh : H p = some h) (ho : fg_Op (ops p)) (h13 : ¬ ops p = 13) (cells stk : Nat → Int32) : fg_Both n ops cs H p h cells stk := by
  rcases ho with e | e | e | e | e | e | e | e | e | e | e | e | e | e | e
  · exact fg_b0 hn S p h eh e cells stk
  · exact fg_b1 hn S p h eh e cells stk
  · exact fg_b2 hn S p h eh e cells stk
  · exact fg_b3 hn S p h eh e cells stk
  · exact fg_b4 hn S p h eh e cells stk
  · exact fg_b5 hn S p h eh e cells stk
  · exact fg_b6 hn S p h eh e cells stk
  · exact fg_b7 hn S p h eh e cells stk
  · exact fg_b8 hn S p h eh e cells stk
  · exact fg_b9 hn S p h eh e cells stk
  · exact fg_b10 hn S p h eh e cells stk
  · exact fg_b11 hn S p h eh e cells stk
  · exact fg_b12 hn S p h eh e cells stk
  · exact absurd e h13
  · exact fg_b14 hn S p h eh e cells stk
end
section
/-! the run -/
theorem fg_yidle (post : Int32 → SY → Prop) (n : Nat) (hn : n ≤ 24) (st F at' high : Int32) (ops cs cells b stk : Nat → Int32) (K : post st (nI n, st, F, at', high, ops, cs, cells, b, stk)) (hidle : ¬ st = 2 ∨ (st = 2 ∧ ∃ p f : Nat, at' = nI p ∧ p < n ∧ F = nI f ∧ f < fg_cost (ops p) (cs p))) : ∀ e j, j + e = 2001 → wY_goOn_7 post (e + 1) (nI j) (nI n) st F at' high ops cs cells b stk := by
  intro e
  induction e with
  | zero =>
    intro j hj
    obtain rfl : j = 2001 := by omega
    exact br_t (nI_lt (a := 2000) (b := 2001) (by omega) (by omega)) K
  | succ e ih =>
    intro j hj
    have N : ∀ y, y = nI j + 1 → wY_goOn_7 post (e + 1) y (nI n) st F at' high ops cs cells b stk := by
      intro y ey
      rw [ey, nI_1]
      exact ih (j + 1) (by omega)
    refine br_f (nI_nlt (a := 2000) (by omega) (by omega)) ?_
    rcases hidle with h2 | ⟨h2, p, f, rfl, hp, rfl, hf⟩
    · exact br_f h2 N
    · have hc := (fg_cost_in (ops p) (cs p)).2
      refine br_t h2 (br_f (nI_pos (by omega)) (br_f (nI_ge hp (by omega)) ?_))
      exact fg_ycost _ _ _ _ _ _ _ _ _ _ _ p (by omega) (br_t (nI_lt hf (by omega)) N)
def fg_Ends (n : Nat) (ops cs : Nat → Int32) (H : Nat → Option Nat) (d j p h f : Nat) (cells stk : Nat → Int32) : Prop := ∃ (st' : Int32) (p' h' f' : Nat) (cells' stk' : Nat → Int32), (st' = 1 ∨ st' = 2) ∧ H p' = some h' ∧ f' ≤ 2000 ∧ (∀ (post : SX → Prop) (s : Int32) (a : Nat → Int32), post (nI n, s, nI h', nI p', nI f', st', ops, cs, cells', a, stk') → wX_carryOn_7 post (d + 1) (nI j) (nI n) s (nI h) (nI p) (nI f) 2 ops cs cells a stk) ∧ (∀ (post : Int32 → SY → Prop) (b : Nat → Int32), post st' (nI n, st', nI f', nI p', nI h', ops, cs, cells', b, stk') → wY_goOn_7 post (d + 2) (nI j) (nI n) 2 (nI f) (nI p) (nI h) ops cs cells b stk)
theorem fg_ends {n : Nat} (hn : n ≤ 24) {ops cs : Nat → Int32} (hops : ∀ p, fg_Op (ops p)) {H : Nat → Option Nat} (S : fg_Snd n ops cs H) : ∀ (d j : Nat), j + d = 2000 → ∀ (p h f : Nat) (cells stk : Nat → Int32), H p = some h → f ≤ d → fg_Ends n ops cs H d j p h f cells stk := by
  intro d
  induction d with
  | zero =>
    intro j hj p h f cells stk eh hf
    obtain rfl : j = 2000 := by omega
    have hc := (fg_cost_in (ops p) (cs p)).1
    refine ⟨2, p, h, f, cells, stk, Or.inr rfl, eh, by omega, ?_, ?_⟩
    · intro post s a K
      exact br_t (nI_le (a := 2000) (b := 2000) (by omega) (by omega)) K
    · intro post b K
      exact fg_yidle post n hn 2 (nI f) (nI p) (nI h) ops cs cells b stk K (Or.inr ⟨rfl, p, f, rfl, (S.1 p h eh).1, rfl, by omega⟩) 1 2000 (by omega)
  | succ d ih =>
    intro j hj p h f cells stk eh hf
    have hp := (S.1 p h eh).1
    have hi : vp_in (nI p) 24 := vp_in_nI (by omega) (by omega)
    have ep : (nI p).toNatClampNeg = p := nI_clamp (by omega)
    have hc := fg_cost_in (ops p) (cs p)
    by_cases c : f < fg_cost (ops p) (cs p)
    · refine ⟨2, p, h, f, cells, stk, Or.inr rfl, eh, by omega, ?_, ?_⟩
      · intro post s a K
        refine br_f (nI_ge (b := 2000) (by omega) (by omega)) (br_f (nI_pos (by omega)) (br_f (nI_ge hp (by omega)) ⟨hi, fun o eo => ⟨hi, fun x ex => ?_⟩⟩))
        rw [ep] at eo ex
        subst eo ex
        exact fg_xcost _ _ _ (br_f (nI_ge c (by omega)) K)
      · intro post b K
        exact fg_yidle post n hn 2 (nI f) (nI p) (nI h) ops cs cells b stk K (Or.inr ⟨rfl, p, f, rfl, hp, rfl, c⟩) (d + 2) j (by omega)
    · have ef : nI f - nI (fg_cost (ops p) (cs p)) = nI (f - fg_cost (ops p) (cs p)) := pk_sub (by omega)
      by_cases h13 : ops p = 13
      · refine ⟨1, p, h, f - fg_cost (ops p) (cs p), cells, stk, Or.inl rfl, eh, by omega, ?_, ?_⟩
        · intro post s a K
          refine br_f (nI_ge (b := 2000) (by omega) (by omega)) (br_f (nI_pos (by omega)) (br_f (nI_ge hp (by omega)) ⟨hi, fun o eo => ⟨hi, fun x ex => ?_⟩⟩))
          rw [ep] at eo ex
          subst eo ex
          exact fg_xcost _ _ _ (br_t (nI_le (by omega) (by omega)) (nm_r ef (br_t h13 K)))
        · intro post b K
          refine br_f (nI_nlt (a := 2000) (by omega) (by omega)) (br_t rfl (br_f (nI_pos (by omega)) (br_f (nI_ge hp (by omega)) ?_)))
          refine fg_ycost _ _ _ _ _ _ _ _ _ _ _ p (by omega) (br_f (nI_nlt (by omega) (by omega)) ?_)
          refine fg_ycost _ _ _ _ _ _ _ _ _ _ _ p (by omega) (nm_r ef ⟨hi, br_t (by rw [ep]; exact h13) ?_⟩)
          intro y ey
          rw [ey, nI_1]
          exact fg_yidle post n hn 1 _ (nI p) (nI h) ops cs cells b stk K (Or.inl (by decide)) (d + 1) (j + 1) (by omega)
      · obtain ⟨p1, h1, cells1, stk1, eh1, BX, BY⟩ := fg_both hn S p h eh (hops p) h13 cells stk
        obtain ⟨st', p', h', f', cells', stk', hst, eh', hf', EX, EY⟩ := ih (j + 1) (by omega) p1 h1 (f - fg_cost (ops p) (cs p)) cells1 stk1 eh1 (by omega)
        refine ⟨st', p', h', f', cells', stk', hst, eh', hf', ?_, ?_⟩
        · intro post s a K
          refine br_f (nI_ge (b := 2000) (by omega) (by omega)) (br_f (nI_pos (by omega)) (br_f (nI_ge hp (by omega)) ⟨hi, fun o eo => ⟨hi, fun x ex => ?_⟩⟩))
          rw [ep] at eo ex
          subst eo ex
          refine fg_xcost _ _ _ (br_t (nI_le (by omega) (by omega)) (nm_r ef (br_f h13 ?_)))
          refine BX _ s _ 2 a ?_
          intro y ey
          rw [ey, nI_1]
          exact EX post s a K
        · intro post b K
          refine br_f (nI_nlt (a := 2000) (by omega) (by omega)) (br_t rfl (br_f (nI_pos (by omega)) (br_f (nI_ge hp (by omega)) ?_)))
          refine fg_ycost _ _ _ _ _ _ _ _ _ _ _ p (by omega) (br_f (nI_nlt (by omega) (by omega)) ?_)
          refine fg_ycost _ _ _ _ _ _ _ _ _ _ _ p (by omega) (nm_r ef ⟨hi, br_f (by rw [ep]; exact h13) ?_⟩)
          refine BY _ 2 _ b ?_
          intro y ey
          rw [ey, nI_1]
          exact EY post b K
theorem fg_goes {n : Nat} (hn : n ≤ 24) {ops cs : Nat → Int32} (hops : ∀ p, fg_Op (ops p)) {H : Nat → Option Nat} (S : fg_Snd n ops cs H) (p h f : Nat) (cells stk : Nat → Int32) (eh : H p = some h) (hf : f ≤ 2000) : ∃ (st' : Int32) (p' h' f' : Nat) (cells' stk' : Nat → Int32), (st' = 1 ∨ st' = 2) ∧ H p' = some h' ∧ f' ≤ 2000 ∧ (∀ (post : SX → Prop) (s st : Int32) (a : Nat → Int32), post (nI n, s, nI h', nI p', nI f', st', ops, cs, cells', a, stk') → wpX_carryOn post (nI n, s, nI h, nI p, nI f, st, ops, cs, cells, a, stk)) ∧ (∀ (post : Int32 → SY → Prop) (st : Int32) (b : Nat → Int32), post st' (nI n, st', nI f', nI p', nI h', ops, cs, cells', b, stk') → wpY_goOn post (nI n, st, nI f, nI p, nI h, ops, cs, cells, b, stk)) := by
  obtain ⟨st', p', h', f', cells', stk', hst, eh', hf', EX, EY⟩ := fg_ends hn hops S 2000 0 (by omega) p h f cells stk eh hf
  exact ⟨st', p', h', f', cells', stk', hst, eh', hf', fun post s st a K => ⟨2001, EX post s a K⟩, fun post st b K => ⟨2002, EY post b K⟩⟩
end
section
/-! the relation, and what is owed -/
def fg_Run (n : Nat) (ops cs : Nat → Int32) (st F atX atY held : Int32) : Prop := (st = 0 ∧ atX = -4) ∨ (st = 1 ∧ atX = atY) ∨ (st = 2 ∧ atX = atY ∧ ∃ (H : Nat → Option Nat) (p h f : Nat), fg_it n ops cs 24 = some H ∧ H p = some h ∧ atY = nI p ∧ held = nI h ∧ f ≤ 2000 ∧ F = nI f)
def i_Rel (k : Nat) (u : SX) (v : SY) : Prop := ∃ (n : Nat) (s held atX atY F st : Int32) (ops cs cells a b stk : Nat → Int32), u = (nI n, s, held, atX, F, st, ops, cs, cells, a, stk) ∧ v = (nI n, st, F, atY, held, ops, cs, cells, b, stk) ∧ n ≤ 24 ∧ (∀ p, fg_Op (ops p)) ∧ fg_XR n (fg_it n ops cs 24) s a ∧ (∃ h : Nat, h ≤ 8 ∧ held = nI h) ∧ fg_Run n ops cs st F atX atY held
theorem fg_mk {k : Nat} {n : Nat} {s held atX atY F st : Int32} {ops cs cells a b stk : Nat → Int32} (hn : n ≤ 24) (hops : ∀ p, fg_Op (ops p)) (hx : fg_XR n (fg_it n ops cs 24) s a) (hh : ∃ h : Nat, h ≤ 8 ∧ held = nI h) (hr : fg_Run n ops cs st F atX atY held) : i_Rel k (nI n, s, held, atX, F, st, ops, cs, cells, a, stk) (nI n, st, F, atY, held, ops, cs, cells, b, stk) := ⟨n, s, held, atX, atY, F, st, ops, cs, cells, a, b, stk, rfl, rfl, hn, hops, hx, hh, hr⟩
theorem fg_xr_eq {n : Nat} {x : Option (Nat → Option Nat)} {s r : Int32} {a b : Nat → Int32} (h1 : fg_XR n x s a) (h2 : fg_XR n x r b) : r = s := by
  rcases h1 with ⟨e1, rfl⟩ | ⟨H, e1, rfl, _, _⟩
  · rcases h2 with ⟨_, rfl⟩ | ⟨H', e2, _, _, _⟩
    · rfl
    · rw [e1] at e2
      cases e2
  · rcases h2 with ⟨e2, _⟩ | ⟨H', _, rfl, _, _⟩
    · rw [e1] at e2
      cases e2
    · rfl
theorem i_up {k : Nat} {u : SX} {v : SY} (h : i_Rel k u v) : i_Rel (k + 3) u v := h
theorem i_vc0 : wpX_init (fun u => wpY_init (fun v => i_Rel 0 u v)) := by
  unfold wpX_init wpX_dropProgram
  refine fg_xcheck (n := 0) _ (by omega) _ _ _ _ _ _ _ _ _ _ (fun _ => Or.inl rfl) ?_
  intro s' a' hx
  exact fg_mk (k := 0) (n := 0) (by omega) (fun _ => Or.inl rfl) hx ⟨0, by omega, rfl⟩ (Or.inl ⟨rfl, rfl⟩)
theorem i_vc_emit {k : Nat} {u : SX} {v : SY} (I : i_Rel k u v) (hk : k + 3 ≤ 1536) (v1 : Int32) (v2 : Int32) : wpX_emit (fun r u' => wpY_emit (fun r' v' => r' = r ∧ i_Rel (k + 3) u' v') v v1 v2) u v1 v2 := by
  obtain ⟨n, s, held, atX, atY, F, st, ops, cs, cells, a, b, stk, rfl, rfl, hn, hops, hx, hh, hr⟩ := I
  by_cases h0 : v1 < 0
  · exact br_t h0 (br_t h0 ⟨rfl, fg_mk hn hops hx hh hr⟩)
  by_cases h14 : v1 ≤ 14
  · have ho := fg_op_of h0 h14
    by_cases h24 : n < 24
    · have hi : vp_in (nI n) 24 := vp_in_nI h24 (by omega)
      have hc : (nI n).toNatClampNeg = n := nI_clamp (by omega)
      refine br_f h0 (br_t h14 (br_t (nI_lt (b := 24) h24 (by omega)) ⟨hi, fun o' eo => ⟨hi, fun c' ec => ?_⟩⟩))
      intro z ez
      rw [hc] at eo ec
      rw [nI_1] at ez
      subst ez
      have hops' : ∀ p, fg_Op (o' p) := by
        intro p
        rw [eo]
        by_cases c : p = n
        · rw [c, pk_us]
          exact ho
        · rw [pk_un c]
          exact hops p
      refine fg_xcheck (n := n + 1) _ (by omega) _ _ _ _ _ _ _ _ _ _ hops' ?_
      intro s' a' hx'
      refine br_f h0 (br_t h14 (br_f (fun e => absurd ((nI_eq (b := 24) (by omega) (by omega)).mp e) (by omega)) ⟨hi, ?_⟩))
      intro o2 eo2
      refine ⟨hi, fun c2 ec2 => ?_⟩
      intro z ez
      rw [hc] at eo2 ec2
      rw [nI_1] at ez
      subst ez
      rw [← eo] at eo2
      rw [← ec] at ec2
      subst eo2 ec2
      exact ⟨nI_pred n, fg_mk (by omega) hops' hx' ⟨0, by omega, rfl⟩ (Or.inl ⟨rfl, rfl⟩)⟩
    · obtain rfl : n = 24 := by omega
      exact br_f h0 (br_t h14 (br_f (nI_nlt (b := 24) (by omega) (by omega)) (br_f h0 (br_t h14 (br_t rfl ⟨rfl, fg_mk hn hops hx hh hr⟩)))))
  · exact br_f h0 (br_f h14 (br_f h0 (br_f h14 ⟨rfl, fg_mk hn hops hx hh hr⟩)))
theorem i_vc_clear {k : Nat} {u : SX} {v : SY} (I : i_Rel k u v) (hk : k + 3 ≤ 1536) : wpX_clear (fun u' => wpY_clear (fun v' => i_Rel (k + 3) u' v') v) u := by
  obtain ⟨n, s, held, atX, atY, F, st, ops, cs, cells, a, b, stk, rfl, rfl, hn, hops, hx, hh, hr⟩ := I
  unfold wpX_clear wpX_dropProgram
  refine fg_xcheck (n := 0) _ (by omega) _ _ _ _ _ _ _ _ _ _ hops ?_
  intro s' a' hx'
  exact fg_mk (k := k + 3) (n := 0) (by omega) hops hx' ⟨0, by omega, rfl⟩ (Or.inl ⟨rfl, rfl⟩)
theorem i_vc_cell {k : Nat} {u : SX} {v : SY} (I : i_Rel k u v) (hk : k + 3 ≤ 1536) (v1 : Int32) (v2 : Int32) : wpX_cell (fun r u' => wpY_cell (fun r' v' => r' = r ∧ i_Rel (k + 3) u' v') v v1 v2) u v1 v2 := by
  obtain ⟨n, s, held, atX, atY, F, st, ops, cs, cells, a, b, stk, rfl, rfl, hn, hops, hx, hh, hr⟩ := I
  have hi : vp_in (v1 &&& 3) 4 := pk_andIn v1 2 (by decide) (by omega)
  exact ⟨hi, nm_e ⟨hi, nm_e ⟨hi, nm_e ⟨hi, nm_e ⟨rfl, fg_mk hn hops hx hh hr⟩⟩⟩⟩⟩
theorem i_vc_run {k : Nat} {u : SX} {v : SY} (I : i_Rel k u v) (hk : k + 3 ≤ 1536) (v1 : Int32) : wpX_run (fun r u' => wpY_run (fun r' v' => r' = r ∧ i_Rel (k + 3) u' v') v v1) u v1 := by
  obtain ⟨n, s, held, atX, atY, F, st, ops, cs, cells, a, b, stk, rfl, rfl, hn, hops, hx, hh, hr⟩ := I
  have hx0 := hx
  rcases hx with ⟨e, rfl⟩ | ⟨H, e, rfl, ok, ag⟩
  · refine br_t rfl ?_
    unfold wpY_run
    refine fg_ysound _ hn _ _ _ _ _ _ _ _ _ hops ?_
    intro r b' hb
    have er := fg_xr_eq hx0 hb
    subst er
    exact br_t rfl ⟨rfl, fg_mk hn hops hx0 hh hr⟩
  · have S := fg_snd hn e
    obtain ⟨st', p', h', f', cells', stk', hst, eh', hf', EX, EY⟩ := fg_goes hn hops S 0 0 (fg_af v1) cells stk S.2.2.1 (fg_af_le v1)
    refine br_f (by decide) (fg_xaf _ v1 (EX _ 1 st a ?_))
    unfold wpY_run
    refine fg_ysound _ hn _ _ _ _ _ _ _ _ _ hops ?_
    intro r b' hb
    have er := fg_xr_eq hx0 hb
    subst er
    refine br_f (by decide) (fg_yaf _ _ v1 (EY _ st b' ⟨rfl, ?_⟩))
    refine fg_mk hn hops hx0 ⟨h', (ok p' h' eh').2, rfl⟩ ?_
    rcases hst with rfl | rfl
    · exact Or.inr (Or.inl ⟨rfl, rfl⟩)
    · exact Or.inr (Or.inr ⟨rfl, rfl, H, p', h', f', e, eh', rfl, rfl, hf', rfl⟩)
theorem i_vc_refuel {k : Nat} {u : SX} {v : SY} (I : i_Rel k u v) (hk : k + 3 ≤ 1536) (v1 : Int32) : wpX_refuel (fun r u' => wpY_refuel (fun r' v' => r' = r ∧ i_Rel (k + 3) u' v') v v1) u v1 := by
  obtain ⟨n, s, held, atX, atY, F, st, ops, cs, cells, a, b, stk, rfl, rfl, hn, hops, hx, hh, hr⟩ := I
  by_cases h2 : st = 2
  · rcases hr with ⟨z, _⟩ | ⟨z, _⟩ | ⟨_, rfl, H, p, h, f, e, eh, rfl, rfl, hf, rfl⟩
    · rw [h2] at z
      exact absurd z (by decide)
    · rw [h2] at z
      exact absurd z (by decide)
    · have S := fg_snd hn e
      have hg := fg_af_le v1
      have ef : fg_af (nI (f + fg_af v1)) = if f + fg_af v1 ≤ 2000 then f + fg_af v1 else 2000 := fg_af_nI (by omega)
      obtain ⟨st', p', h', f', cells', stk', hst, eh', hf', EX, EY⟩ := fg_goes hn hops S p h (fg_af (nI (f + fg_af v1))) cells stk eh (fg_af_le _)
      refine br_t h2 (fg_xaf _ v1 (nm_r (nI_add f (fg_af v1)) (fg_xaf _ _ (EX _ s st a ?_))))
      refine br_t h2 (fg_yaf _ _ v1 ?_)
      rw [nI_add]
      refine fg_yleast _ _ _ (by omega) ?_
      rw [← ef]
      refine EY _ st b ⟨rfl, ?_⟩
      refine fg_mk hn hops hx ⟨h', (S.1 p' h' eh').2, rfl⟩ ?_
      rcases hst with rfl | rfl
      · exact Or.inr (Or.inl ⟨rfl, rfl⟩)
      · exact Or.inr (Or.inr ⟨rfl, rfl, H, p', h', f', e, eh', rfl, rfl, hf', rfl⟩)
  · exact br_f h2 (br_f h2 ⟨rfl, fg_mk hn hops hx hh hr⟩)
theorem i_vc_sound {k : Nat} {u : SX} {v : SY} (I : i_Rel k u v) (hk : k + 3 ≤ 1536) : wpX_sound (fun r => wpY_sound (fun r' v' => r' = r ∧ i_Rel (k + 3) u v') v) u := by
  obtain ⟨n, s, held, atX, atY, F, st, ops, cs, cells, a, b, stk, rfl, rfl, hn, hops, hx, hh, hr⟩ := I
  refine ⟨?_, fg_ysound _ hn _ _ _ _ _ _ _ _ _ hops ?_⟩
  · rcases hx with ⟨_, rfl⟩ | ⟨_, _, rfl, _⟩ <;> rfl
  · intro r b' hb
    exact ⟨fg_xr_eq hx hb, fg_mk hn hops hx hh hr⟩
theorem i_vc_height {k : Nat} {u : SX} {v : SY} (I : i_Rel k u v) (hk : k + 3 ≤ 1536) (v1 : Int32) : wpX_height (fun r => wpY_height (fun r' v' => r' = r ∧ i_Rel (k + 3) u v') v v1) u v1 := by
  obtain ⟨n, s, held, atX, atY, F, st, ops, cs, cells, a, b, stk, rfl, rfl, hn, hops, hx, hh, hr⟩ := I
  have hx0 := hx
  rcases hx with ⟨e, rfl⟩ | ⟨H, e, rfl, ok, ag⟩
  · refine br_t rfl ?_
    unfold wpY_height
    refine fg_ysound _ hn _ _ _ _ _ _ _ _ _ hops ?_
    intro r b' hb
    have er := fg_xr_eq hx0 hb
    subst er
    exact br_t rfl ⟨rfl, fg_mk hn hops hx0 hh hr⟩
  · have Y : ∀ R : Int32, (∀ b', fg_Ag b' H → ((v1 < 0 → R = -4) ∧ (¬ v1 < 0 → ((nI n ≤ v1 → R = -4) ∧ (¬ nI n ≤ v1 → vp_in v1 24 ∧ ((0 ≤ b' v1.toNatClampNeg → R = b' v1.toNatClampNeg) ∧ (¬ 0 ≤ b' v1.toNatClampNeg → R = -4))))))) → wpY_height (fun r' v' => r' = R ∧ i_Rel (k + 3) (nI n, 1, held, atX, F, st, ops, cs, cells, a, stk) v') (nI n, st, F, atY, held, ops, cs, cells, b, stk) v1 := by
      intro R hR
      unfold wpY_height
      refine fg_ysound _ hn _ _ _ _ _ _ _ _ _ hops ?_
      intro r b' hb
      have er := fg_xr_eq hx0 hb
      subst er
      rcases hb with ⟨e2, _⟩ | ⟨H2, e2, _, _, ag2⟩
      · rw [e] at e2
        cases e2
      · rw [e] at e2
        cases e2
        obtain ⟨q1, q2⟩ := hR b' ag2
        refine br_f (by decide) (br_c (fun z => ⟨(q1 z).symm, fg_mk hn hops hx0 hh hr⟩) (fun z => ?_))
        obtain ⟨q3, q4⟩ := q2 z
        refine br_c (fun z => ⟨(q3 z).symm, fg_mk hn hops hx0 hh hr⟩) (fun z => ?_)
        obtain ⟨q5, q6, q7⟩ := q4 z
        exact ⟨q5, br_c (fun z => ⟨q5, (q6 z).symm, fg_mk hn hops hx0 hh hr⟩) (fun z => ⟨(q7 z).symm, fg_mk hn hops hx0 hh hr⟩)⟩
    refine br_f (by decide) ?_
    by_cases h0 : v1 < 0
    · exact br_t h0 (Y _ (fun b' _ => br_t h0 rfl))
    · obtain ⟨j, hj, rfl⟩ := nI_of h0
      have hc : (nI j).toNatClampNeg = j := nI_clamp hj
      by_cases hjn : j < n
      · have hi : vp_in (nI j) 24 := vp_in_nI (by omega) (by omega)
        have hb := nI_ge hjn (by omega)
        have ea : a (nI j).toNatClampNeg = fg_enc (H j) := by
          rw [hc]
          exact ag j (by omega)
        have eb : ∀ b', fg_Ag b' H → b' (nI j).toNatClampNeg = fg_enc (H j) := by
          intro b' h
          rw [hc]
          exact h j (by omega)
        refine br_f h0 (br_f hb ⟨hi, ?_⟩)
        cases eH : H j with
        | none =>
          rw [eH] at ea eb
          exact br_t ea (Y _ (fun b' h => br_f h0 (br_f hb ⟨hi, br_f (by rw [eb b' h]; decide) rfl⟩)))
        | some m =>
          rw [eH] at ea eb
          have hm := (ok j m eH).2
          refine br_f (by rw [ea]; exact fg_ne1 (fg_big hm)) ⟨hi, Y _ (fun b' h => br_f h0 (br_f hb ⟨hi, br_t (by rw [eb b' h]; exact nI_pos' (fg_big hm)) (ea.trans (eb b' h).symm)⟩))⟩
      · have hb : nI n ≤ nI j := nI_le (by omega) hj
        exact br_f h0 (br_t hb (Y _ (fun b' _ => br_f h0 (br_t hb rfl))))
theorem i_vc_state {k : Nat} {u : SX} {v : SY} (I : i_Rel k u v) (hk : k + 3 ≤ 1536) : wpX_state (fun r => wpY_state (fun r' => r' = r ∧ i_Rel (k + 3) u v) v) u := by
  obtain ⟨n, s, held, atX, atY, F, st, ops, cs, cells, a, b, stk, rfl, rfl, hn, hops, hx, hh, hr⟩ := I
  exact ⟨rfl, fg_mk hn hops hx hh hr⟩
theorem i_vc_fuel {k : Nat} {u : SX} {v : SY} (I : i_Rel k u v) (hk : k + 3 ≤ 1536) : wpX_fuel (fun r => wpY_fuel (fun r' => r' = r ∧ i_Rel (k + 3) u v) v) u := by
  obtain ⟨n, s, held, atX, atY, F, st, ops, cs, cells, a, b, stk, rfl, rfl, hn, hops, hx, hh, hr⟩ := I
  exact ⟨rfl, fg_mk hn hops hx hh hr⟩
theorem i_vc_place {k : Nat} {u : SX} {v : SY} (I : i_Rel k u v) (hk : k + 3 ≤ 1536) : wpX_place (fun r => wpY_place (fun r' => r' = r ∧ i_Rel (k + 3) u v) v) u := by
  obtain ⟨n, s, held, atX, atY, F, st, ops, cs, cells, a, b, stk, rfl, rfl, hn, hops, hx, hh, hr⟩ := I
  have R : i_Rel (k + 3) (nI n, s, held, atX, F, st, ops, cs, cells, a, stk) (nI n, st, F, atY, held, ops, cs, cells, b, stk) := fg_mk hn hops hx hh hr
  rcases hr with ⟨z, e⟩ | ⟨z, e⟩ | ⟨z, e, _⟩
  · exact br_t z ⟨e.symm, R⟩
  · exact br_f (by rw [z]; decide) ⟨e.symm, R⟩
  · exact br_f (by rw [z]; decide) ⟨e.symm, R⟩
theorem i_vc_depth {k : Nat} {u : SX} {v : SY} (I : i_Rel k u v) (hk : k + 3 ≤ 1536) : wpX_depth (fun r => wpY_depth (fun r' => r' = r ∧ i_Rel (k + 3) u v) v) u := by
  obtain ⟨n, s, held, atX, atY, F, st, ops, cs, cells, a, b, stk, rfl, rfl, hn, hops, hx, hh, hr⟩ := I
  exact ⟨rfl, fg_mk hn hops hx hh hr⟩
theorem i_vc_top {k : Nat} {u : SX} {v : SY} (I : i_Rel k u v) (hk : k + 3 ≤ 1536) (v1 : Int32) : wpX_top (fun r => wpY_top (fun r' => r' = r ∧ i_Rel (k + 3) u v) v v1) u v1 := by
  obtain ⟨n, s, held, atX, atY, F, st, ops, cs, cells, a, b, stk, rfl, rfl, hn, hops, hx, hh, hr⟩ := I
  have R : i_Rel (k + 3) (nI n, s, held, atX, F, st, ops, cs, cells, a, stk) (nI n, st, F, atY, held, ops, cs, cells, b, stk) := fg_mk hn hops hx hh hr
  obtain ⟨h, h8, rfl⟩ := hh
  by_cases h0 : v1 < 0
  · exact br_t h0 (br_t h0 ⟨rfl, R⟩)
  · obtain ⟨j, hj, rfl⟩ := nI_of h0
    by_cases hjh : j < h
    · have hl := nI_lt hjh (by omega)
      obtain ⟨m, rfl⟩ : ∃ m, h = m + 1 := ⟨h - 1, by omega⟩
      have e : nI (m + 1) - 1 - nI j = nI (m - j) := by rw [nI_pred, pk_sub (by omega)]
      refine br_f h0 (br_t hl ⟨by rw [e]; exact vp_in_nI (by omega) (by omega), br_f h0 (br_t hl ⟨by rw [e]; exact vp_in_nI (by omega) (by omega), rfl, R⟩)⟩)
    · have hl := nI_nlt (a := j) (b := h) (by omega) hj
      exact br_f h0 (br_f hl (br_f h0 (br_f hl ⟨rfl, R⟩)))
theorem i_vc_get {k : Nat} {u : SX} {v : SY} (I : i_Rel k u v) (hk : k + 3 ≤ 1536) (v1 : Int32) : wpX_get (fun r => wpY_get (fun r' => r' = r ∧ i_Rel (k + 3) u v) v v1) u v1 := by
  obtain ⟨n, s, held, atX, atY, F, st, ops, cs, cells, a, b, stk, rfl, rfl, hn, hops, hx, hh, hr⟩ := I
  have hi : vp_in (v1 &&& 3) 4 := pk_andIn v1 2 (by decide) (by omega)
  exact ⟨hi, hi, rfl, fg_mk hn hops hx hh hr⟩
end
