theorem cr_ip0 {post : Int32 → Prop} {x : Int32} (h : x < 0 ∨ nI 16 ≤ x) (hp : post 0) : wpX_isPosition post x := by
  unfold wpX_isPosition
  by_cases z : x < 0
  · exact br_t z hp
  · rcases h with h | h
    · exact absurd h z
    · exact br_f z (br_t h hp)
theorem cr_ip1 {post : Int32 → Prop} {j : Nat} (hj : j < 16) (hp : post 1) : wpX_isPosition post (nI j) := by
  unfold wpX_isPosition
  exact br_f (nI_pos (by omega)) (br_f (nI_ge (b := 16) hj (by decide)) hp)
theorem cr_il0 {post : Int32 → Prop} {x : Int32} (h : x < 0 ∨ nI 16 ≤ x) (hp : post 0) : wpX_isPlace post x := by
  unfold wpX_isPlace
  by_cases z : x < 0
  · exact br_t z hp
  · rcases h with h | h
    · exact absurd h z
    · exact br_f z (br_t h hp)
theorem cr_il1 {post : Int32 → Prop} {j : Nat} (hj : j < 16) (hp : post 1) : wpX_isPlace post (nI j) := by
  unfold wpX_isPlace
  exact br_f (nI_pos (by omega)) (br_f (nI_ge (b := 16) hj (by decide)) hp)
/-- both sides say the same of a level -/
theorem cr_lev (x : Int32) : ∃ r : Int32, (r = 0 ∨ r = 1) ∧ (∀ post : Int32 → Prop, post r → wpX_isLevel post x) ∧ (∀ (post : Int32 → Prop) (u : SY), post r → wpY_levelOk post u x) := by
  by_cases h1 : x < (-32768)
  · refine ⟨0, Or.inl rfl, fun post hp => br_t h1 hp, fun post u hp => ?_⟩
    obtain ⟨a, b, c, d, e, f, g, i, j⟩ := u
    exact br_t h1 hp
  · by_cases h2 : 32768 < x
    · refine ⟨0, Or.inl rfl, fun post hp => br_f h1 (br_t h2 hp), fun post u hp => ?_⟩
      obtain ⟨a, b, c, d, e, f, g, i, j⟩ := u
      exact br_f h1 (br_t h2 hp)
    · refine ⟨1, Or.inr rfl, fun post hp => br_f h1 (br_f h2 hp), fun post u hp => ?_⟩
      obtain ⟨a, b, c, d, e, f, g, i, j⟩ := u
      exact br_f h1 (br_f h2 hp)
theorem cr_xClearL (post : SX → Prop) (c b o d : Int32) (st sl sp us : Nat → Int32) (h : post (c, b, o, d, cr_f st (fun q => q) (fun _ => 0) 16, sl, sp, us)) : ∀ m i : Nat, i + m = 16 → wX_clearStaging_2 post c b o d (m + 1) (nI i) (cr_f st (fun q => q) (fun _ => 0) i) sl sp us := by
  intro m
  induction m with
  | zero =>
    intro i hi
    have e : i = 16 := by omega
    subst e
    exact br_t (nI_le (a := 16) (b := 16) (by decide) (by decide)) h
  | succ m ih =>
    intro i hi
    refine br_f (nI_ge (b := 16) (by omega) (by decide)) ⟨vp_in_nI (by omega) (by decide), fun a ea x ex => ?_⟩
    subst ea ex
    rw [nI_1 i, nI_clamp (n := i) (by omega)]
    exact ih (i + 1) (by omega)
theorem cr_xClear {post : SX → Prop} {c b o d : Int32} {st sl sp us : Nat → Int32} (h : post (c, b, o, d, cr_f st (fun q => q) (fun _ => 0) 16, sl, sp, us)) : wpX_clearStaging post (c, b, o, d, st, sl, sp, us) := by
  unfold wpX_clearStaging
  exact Exists.intro 17 (cr_xClearL post c b o d st sl sp us h 16 0 rfl)
theorem cr_yClearL (post : SY → Prop) (c o n d vp : Int32) (st sp sl vw : Nat → Int32) (h : post (c, o, n, d, vp, cr_f st (fun q => q) (fun _ => 0) 16, sp, sl, vw)) : ∀ m i : Nat, i + m = 16 → wY_clearStaging_2 post c o n d vp (m + 1) (nI i) (cr_f st (fun q => q) (fun _ => 0) i) sp sl vw := by
  intro m
  induction m with
  | zero =>
    intro i hi
    have e : i = 16 := by omega
    subst e
    exact br_t (nI_le (a := 16) (b := 16) (by decide) (by decide)) h
  | succ m ih =>
    intro i hi
    refine br_f (nI_ge (b := 16) (by omega) (by decide)) ⟨vp_in_nI (by omega) (by decide), fun a ea x ex => ?_⟩
    subst ea ex
    rw [nI_1 i, nI_clamp (n := i) (by omega)]
    exact ih (i + 1) (by omega)
theorem cr_yClear {post : SY → Prop} {c o n d vp : Int32} {st sp sl vw : Nat → Int32} (h : post (c, o, n, d, vp, cr_f st (fun q => q) (fun _ => 0) 16, sp, sl, vw)) : wpY_clearStaging post (c, o, n, d, vp, st, sp, sl, vw) := by
  unfold wpY_clearStaging
  exact Exists.intro 17 (cr_yClearL post c o n d vp st sp sl vw h 16 0 rfl)
theorem cr_yViewL (post : SY → Prop) (c o n d vp : Int32) (st sp sl vw : Nat → Int32) (h : post (c, o, n, d, vp, st, sp, sl, cr_f vw (fun q => q) (fun _ => 0) 16)) : ∀ m i : Nat, i + m = 16 → wY_clearView_7 post c o n d vp (m + 1) (nI i) st sp sl (cr_f vw (fun q => q) (fun _ => 0) i) := by
  intro m
  induction m with
  | zero =>
    intro i hi
    have e : i = 16 := by omega
    subst e
    exact br_t (nI_le (a := 16) (b := 16) (by decide) (by decide)) h
  | succ m ih =>
    intro i hi
    refine br_f (nI_ge (b := 16) (by omega) (by decide)) ⟨vp_in_nI (by omega) (by decide), fun a ea x ex => ?_⟩
    subst ea ex
    rw [nI_1 i, nI_clamp (n := i) (by omega)]
    exact ih (i + 1) (by omega)
theorem cr_yView {post : SY → Prop} {c o n d vp : Int32} {st sp sl vw : Nat → Int32} (h : post (c, o, n, d, -1, st, sp, sl, cr_f vw (fun q => q) (fun _ => 0) 16)) : wpY_clearView post (c, o, n, d, vp, st, sp, sl, vw) := by
  unfold wpY_clearView
  exact Exists.intro 17 (cr_yViewL post c o n d (-1) st sp sl vw h 16 0 rfl)
theorem cr_xResetL (post : SX → Prop) (c b o d : Int32) (st sl sp us : Nat → Int32) (h : post (c, 0, 1, 0, st, sl, sp, cr_f us (fun q => q) (fun _ => 0) 16)) : ∀ m i : Nat, i + m = 16 → wX_reset_2 post c b o d (m + 1) (nI i) st sl sp (cr_f us (fun q => q) (fun _ => 0) i) := by
  intro m
  induction m with
  | zero =>
    intro i hi
    have e : i = 16 := by omega
    subst e
    exact br_t (nI_le (a := 16) (b := 16) (by decide) (by decide)) h
  | succ m ih =>
    intro i hi
    refine br_f (nI_ge (b := 16) (by omega) (by decide)) ⟨vp_in_nI (by omega) (by decide), fun a ea x ex => ?_⟩
    subst ea ex
    rw [nI_1 i, nI_clamp (n := i) (by omega), cr_b0]
    exact ih (i + 1) (by omega)
theorem cr_xReset {post : SX → Prop} {c b o d : Int32} {st sl sp us : Nat → Int32} (h : post (c, 0, 1, 0, st, sl, sp, cr_f us (fun q => q) (fun _ => 0) 16)) : wpX_reset post (c, b, o, d, st, sl, sp, us) := by
  unfold wpX_reset
  exact Exists.intro 17 (cr_xResetL post c b o d st sl sp us h 16 0 rfl)
theorem cr_xCopyL (post : SX → Prop) (n : Nat) (hn : n < 6) (c b o d : Int32) (st sl sp us : Nat → Int32) (h : post (c, b, o, d, st, cr_f sl (fun q => n * 16 + q) st 16, sp, us)) : ∀ m i : Nat, i + m = 16 → wX_copyStagedTo_7 post (nI (n * 16)) c b o d (m + 1) (nI i) st (cr_f sl (fun q => n * 16 + q) st i) sp us := by
  intro m
  induction m with
  | zero =>
    intro i hi
    have e : i = 16 := by omega
    subst e
    exact br_t (nI_le (a := 16) (b := 16) (by decide) (by decide)) h
  | succ m ih =>
    intro i hi
    have e : nI (n * 16) + nI i = nI (n * 16 + i) := nI_add _ _
    refine br_f (nI_ge (b := 16) (by omega) (by decide)) ⟨vp_in_nI (by omega) (by decide), by rw [e]; exact vp_in_nI (by omega) (by decide), fun a ea x ex => ?_⟩
    subst ea ex
    rw [e, nI_1 i, nI_clamp (n := i) (by omega), nI_clamp (n := n * 16 + i) (by omega)]
    exact ih (i + 1) (by omega)
theorem cr_xCopy {post : SX → Prop} {n : Nat} (hn : n < 6) {c b o d : Int32} {st sl sp us : Nat → Int32} (h : post (c, b, o, d, st, cr_f sl (fun q => n * 16 + q) st 16, sp, us)) : wpX_copyStagedTo post (c, b, o, d, st, sl, sp, us) (nI n) := by
  unfold wpX_copyStagedTo
  exact nm_r (pk_mul n 16) (Exists.intro 17 (cr_xCopyL post n hn c b o d st sl sp us h 16 0 rfl))
theorem cr_yCopyL (post : Int32 → SY → Prop) (n : Nat) (hn : n < 6) (c o d vp : Int32) (st sp sl vw : Nat → Int32) (h : post (nI n) (c, o, nI (n + 1), d, vp, st, sp, cr_f sl (fun q => n * 16 + q) st 16, vw)) : ∀ m i : Nat, i + m = 16 → wY_commit_59 post c o (nI n) d vp (m + 1) (nI i) st sp (cr_f sl (fun q => n * 16 + q) st i) vw := by
  intro m
  induction m with
  | zero =>
    intro i hi
    have e : i = 16 := by omega
    subst e
    refine br_t (nI_le (a := 16) (b := 16) (by decide) (by decide)) (fun f ef => ?_)
    subst ef
    rw [nI_1 n, nI_pred n]
    exact h
  | succ m ih =>
    intro i hi
    refine br_f (nI_ge (b := 16) (by omega) (by decide)) ⟨vp_in_nI (by omega) (by decide), by rw [cr_o]; exact vp_in_nI (by omega) (by decide), fun a ea x ex => ?_⟩
    subst ea ex
    rw [cr_o, nI_1 i, nI_clamp (n := i) (by omega), nI_clamp (n := n * 16 + i) (by omega)]
    exact ih (i + 1) (by omega)
theorem cr_yDecL (post : Int32 → SY → Prop) (d : Nat) (hd : d < 6) (c o n vp : Int32) (st sp sl vw : Nat → Int32) (h : post vp (c, o, n, nI (d + 1), vp, st, sp, sl, cr_f vw (fun q => q) (fun q => sl (d * 16 + q)) 16)) : ∀ m i : Nat, i + m = 16 → wY_decodeNext_39 post c o n (nI d) vp (m + 1) (nI i) st sp sl (cr_f vw (fun q => q) (fun q => sl (d * 16 + q)) i) := by
  intro m
  induction m with
  | zero =>
    intro i hi
    have e : i = 16 := by omega
    subst e
    refine br_t (nI_le (a := 16) (b := 16) (by decide) (by decide)) (fun f ef => ?_)
    subst ef
    rw [nI_1 d]
    exact h
  | succ m ih =>
    intro i hi
    refine br_f (nI_ge (b := 16) (by omega) (by decide)) ⟨by rw [cr_o]; exact vp_in_nI (by omega) (by decide), vp_in_nI (by omega) (by decide), fun a ea x ex => ?_⟩
    subst ea ex
    rw [cr_o, nI_1 i, nI_clamp (n := i) (by omega), nI_clamp (n := d * 16 + i) (by omega)]
    exact ih (i + 1) (by omega)
theorem cr_yPlL (post : Int32 → Prop) (p n : Nat) (hn : n ≤ 6) (c o d vp : Int32) (st sp sl vw : Nat → Int32) : ∀ m i : Nat, i + m = n → ((post 1 ∧ ∃ k : Nat, i ≤ k ∧ k < n ∧ sp k = nI p) ∨ (post 0 ∧ ∀ k : Nat, i ≤ k → k < n → sp k ≠ nI p)) → wY_placeUsed_14 post (nI p) c o (nI n) d vp st sp sl vw (m + 1) (nI i) := by
  intro m
  induction m with
  | zero =>
    intro i hi H
    refine br_t (nI_le (by omega) (by omega)) ?_
    rcases H with ⟨_, k, h1, h2, _⟩ | ⟨h, _⟩
    · omega
    · exact h
  | succ m ih =>
    intro i hi H
    have ec : (nI i).toNatClampNeg = i := nI_clamp (by omega)
    refine br_f (nI_ge (by omega) (by omega)) (br_f (nI_ge (b := 6) (by omega) (by decide)) ⟨vp_in_nI (by omega) (by decide), br_c (fun z => ?_) (fun z x ex => ?_)⟩)
    · rw [ec] at z
      rcases H with ⟨h, _⟩ | ⟨_, h⟩
      · exact h
      · exact absurd z (h i (by omega) (by omega))
    · rw [ec] at z
      subst ex
      rw [nI_1 i]
      refine ih (i + 1) (by omega) ?_
      rcases H with ⟨h, k, h1, h2, h3⟩ | ⟨h, h1⟩
      · refine Or.inl ⟨h, k, ?_, h2, h3⟩
        by_cases e : k = i
        · subst e
          exact absurd h3 z
        · omega
      · exact Or.inr ⟨h, fun k a b => h1 k (by omega) b⟩
theorem cr_yPl {post : Int32 → Prop} {p n : Nat} (hp : p < 16) (hn : n ≤ 6) {c o d vp : Int32} {st sp sl vw : Nat → Int32} (H : (post 1 ∧ ∃ k : Nat, k < n ∧ sp k = nI p) ∨ (post 0 ∧ ∀ k : Nat, k < n → sp k ≠ nI p)) : wpY_placeUsed post (c, o, nI n, d, vp, st, sp, sl, vw) (nI p) := by
  unfold wpY_placeUsed
  refine br_f (nI_pos (by omega)) (br_t (nI_le (b := 15) (by omega) (by decide)) (Exists.intro (n + 1) (cr_yPlL post p n hn c o d vp st sp sl vw n 0 (by omega) ?_)))
  rcases H with ⟨h, k, h2, h3⟩ | ⟨h, h1⟩
  · exact Or.inl ⟨h, k, by omega, h2, h3⟩
  · exact Or.inr ⟨h, fun k _ b => h1 k b⟩
