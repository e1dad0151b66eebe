section
theorem pk_us {f : Nat → Int32} {k : Nat} {x : Int32} : upd f k x k = x := if_pos rfl
theorem pk_un {f : Nat → Int32} {k j : Nat} {x : Int32} (h : j ≠ k) : upd f k x j = f j := if_neg h
theorem pk_mul (a b : Nat) : nI a * nI b = nI (a * b) := (Int32.ofNat_mul a b).symm
theorem pk_ix (x : Int32) {n : Nat} (hn : n < 2 ^ 31) : x < 0 ∨ nI n ≤ x ∨ ∃ j : Nat, j < n ∧ x = nI j := by
  by_cases h : x < 0
  · exact Or.inl h
  · obtain ⟨j, hj, rfl⟩ := nI_of h
    by_cases h2 : j < n
    · exact Or.inr (Or.inr ⟨j, h2, rfl⟩)
    · exact Or.inr (Or.inl (nI_le (by omega) hj))
/-- an array after i stores, the j-th of vl j at ix j -/
def cr_f (a : Nat → Int32) (ix : Nat → Nat) (vl : Nat → Int32) : Nat → (Nat → Int32)
  | 0 => a
  | i + 1 => upd (cr_f a ix vl i) (ix i) (vl i)
theorem cr_f_in0 (a : Nat → Int32) (vl : Nat → Int32) : ∀ i j : Nat, j < i → cr_f a (fun q => q) vl i j = vl j := by
  intro i
  induction i with
  | zero => intro j h; omega
  | succ i ih =>
    intro j h
    by_cases e : j = i
    · cases e
      exact pk_us
    · exact (pk_un (by omega)).trans (ih j (by omega))
/-- a place is marked just when one of the first n blocks has it -/
def cr_U (n : Nat) (sp us : Nat → Int32) : Prop := ∀ p : Nat, p < 16 → (us p = 1 ∧ ∃ k : Nat, k < n ∧ sp k = nI p) ∨ (us p = 0 ∧ ∀ k : Nat, k < n → sp k ≠ nI p)
/-- the view is block d - 1, or nothing at 0 -/
def cr_V (d : Nat) (sl sp vw : Nat → Int32) (vp : Int32) : Prop := (d = 0 → vp = -1 ∧ ∀ p : Nat, p < 16 → vw p = 0) ∧ (∀ e : Nat, d = e + 1 → vp = sp e ∧ ∀ p : Nat, p < 16 → vw p = sl (e * 16 + p))
theorem cr_V0 {sl sp vw : Nat → Int32} (h : ∀ p : Nat, p < 16 → vw p = 0) : cr_V 0 sl sp vw (-1) := ⟨fun _ => ⟨rfl, h⟩, fun e he => by omega⟩
theorem cr_V0c {sl sp sl' sp' vw : Nat → Int32} {vp : Int32} (h : cr_V 0 sl sp vw vp) : cr_V 0 sl' sp' vw vp := ⟨h.1, fun e he => by omega⟩
theorem cr_V1 {d : Nat} {sl sp vw : Nat → Int32} (h : ∀ p : Nat, p < 16 → vw p = sl (d * 16 + p)) : cr_V (d + 1) sl sp vw (sp d) := ⟨fun z => by omega, fun e he => by
  have e2 : e = d := by omega
  cases e2
  exact ⟨rfl, h⟩⟩
theorem cr_U0 {sp us : Nat → Int32} (h : ∀ p : Nat, p < 16 → us p = 0) : cr_U 0 sp us := fun p hp => Or.inr ⟨h p hp, fun k hk => by omega⟩
theorem cr_U1 {n p : Nat} {sp us : Nat → Int32} (h : cr_U n sp us) (hp : p < 16) : cr_U (n + 1) (upd sp n (nI p)) (upd us p 1) := by
  intro q hq
  by_cases e : q = p
  · cases e
    exact Or.inl ⟨pk_us, n, by omega, pk_us⟩
  · rcases h q hq with ⟨h1, k, hk, hs⟩ | ⟨h0, hs⟩
    · exact Or.inl ⟨(pk_un e).trans h1, k, by omega, (pk_un (by omega)).trans hs⟩
    · refine Or.inr ⟨(pk_un e).trans h0, fun k hk => ?_⟩
      by_cases z : k = n
      · cases z
        rw [pk_us]
        intro w
        rw [nI_eq (by omega) (by omega)] at w
        omega
      · rw [pk_un z]
        exact hs k (by omega)
theorem cr_10 : ¬ (1 : Int32) = 0 := by decide
theorem cr_n0 {x : Int32} {n : Nat} (hn : n < 2 ^ 31) (h : nI n ≤ x) : ¬ x < 0 := by
  intro z
  rw [Int32.lt_iff_toInt_lt] at z
  rw [Int32.le_iff_toInt_le, nI_toInt hn] at h
  have h0 : (0 : Int32).toInt = 0 := by decide
  omega
theorem cr_nle {x : Int32} (m n : Nat) (hmn : m < n) (hn : n < 2 ^ 31) (h : nI n ≤ x) : ¬ x ≤ nI m := by
  intro z
  rw [Int32.le_iff_toInt_le, nI_toInt (by omega)] at z
  rw [Int32.le_iff_toInt_le, nI_toInt hn] at h
  omega
theorem cr_b1 : vp_nar .boolean 1 = 1 := rfl
theorem cr_b0 : vp_nar .boolean 0 = 0 := rfl
theorem cr_o {n i : Nat} : nI n * 16 + nI i = nI (n * 16 + i) := by
  rw [show nI n * 16 = nI (n * 16) from pk_mul n 16, nI_add]
end
section
theorem cr_ip0 {post : Int32 → Prop} {x : Int32} (h : x < 0 ∨ nI 16 ≤ x) (hp : post 0) : wpX_isPosition post x := by
  unfold wpX_isPosition
  by_cases z : x < 0
  · exact br_t z hp
  · rcases h with h | h
    · exact absurd h z
    · exact br_f z (br_t h hp)
theorem cr_ip1 {post : Int32 → Prop} {j : Nat} (hj : j < 16) (hp : post 1) : wpX_isPosition post (nI j) := by
  unfold wpX_isPosition
  exact br_f (nI_pos (by omega)) (br_f (nI_ge (b := 16) hj (by decide)) hp)
theorem cr_il0 {post : Int32 → Prop} {x : Int32} (h : x < 0 ∨ nI 16 ≤ x) (hp : post 0) : wpX_isPlace post x := by
  unfold wpX_isPlace
  by_cases z : x < 0
  · exact br_t z hp
  · rcases h with h | h
    · exact absurd h z
    · exact br_f z (br_t h hp)
theorem cr_il1 {post : Int32 → Prop} {j : Nat} (hj : j < 16) (hp : post 1) : wpX_isPlace post (nI j) := by
  unfold wpX_isPlace
  exact br_f (nI_pos (by omega)) (br_f (nI_ge (b := 16) hj (by decide)) hp)
/-- both sides say the same of a level -/
theorem cr_lev (x : Int32) : ∃ r : Int32, (r = 0 ∨ r = 1) ∧ (∀ post : Int32 → Prop, post r → wpX_isLevel post x) ∧ (∀ (post : Int32 → Prop) (u : SY), post r → wpY_levelOk post u x) := by
  by_cases h1 : x < (-32768)
  · refine ⟨0, Or.inl rfl, fun post hp => br_t h1 hp, fun post u hp => ?_⟩
    obtain ⟨a, b, c, d, e, f, g, i, j⟩ := u
    exact br_t h1 hp
  · by_cases h2 : 32768 < x
    · refine ⟨0, Or.inl rfl, fun post hp => br_f h1 (br_t h2 hp), fun post u hp => ?_⟩
      obtain ⟨a, b, c, d, e, f, g, i, j⟩ := u
      exact br_f h1 (br_t h2 hp)
    · refine ⟨1, Or.inr rfl, fun post hp => br_f h1 (br_f h2 hp), fun post u hp => ?_⟩
      obtain ⟨a, b, c, d, e, f, g, i, j⟩ := u
      exact br_f h1 (br_f h2 hp)
theorem cr_xClearL (post : SX → Prop) (c b o d : Int32) (st sl sp us : Nat → Int32) (h : post (c, b, o, d, cr_f st (fun q => q) (fun _ => 0) 16, sl, sp, us)) : ∀ m i : Nat, i + m = 16 → wX_clearStaging_2 post c b o d (m + 1) (nI i) (cr_f st (fun q => q) (fun _ => 0) i) sl sp us := by
  intro m
  induction m with
  | zero =>
    intro i hi
    have e : i = 16 := by omega
    subst e
    exact br_t (nI_le (a := 16) (b := 16) (by decide) (by decide)) h
  | succ m ih =>
    intro i hi
    refine br_f (nI_ge (b := 16) (by omega) (by decide)) ⟨vp_in_nI (by omega) (by decide), fun a ea x ex => ?_⟩
    subst ea ex
    rw [nI_1 i, nI_clamp (n := i) (by omega)]
    exact ih (i + 1) (by omega)
theorem cr_xClear {post : SX → Prop} {c b o d : Int32} {st sl sp us : Nat → Int32} (h : post (c, b, o, d, cr_f st (fun q => q) (fun _ => 0) 16, sl, sp, us)) : wpX_clearStaging post (c, b, o, d, st, sl, sp, us) := by
  unfold wpX_clearStaging
  exact Exists.intro 17 (cr_xClearL post c b o d st sl sp us h 16 0 rfl)
theorem cr_yClearL (post : SY → Prop) (c o n d vp : Int32) (st sp sl vw : Nat → Int32) (h : post (c, o, n, d, vp, cr_f st (fun q => q) (fun _ => 0) 16, sp, sl, vw)) : ∀ m i : Nat, i + m = 16 → wY_clearStaging_2 post c o n d vp (m + 1) (nI i) (cr_f st (fun q => q) (fun _ => 0) i) sp sl vw := by
  intro m
  induction m with
  | zero =>
    intro i hi
    have e : i = 16 := by omega
    subst e
    exact br_t (nI_le (a := 16) (b := 16) (by decide) (by decide)) h
  | succ m ih =>
    intro i hi
    refine br_f (nI_ge (b := 16) (by omega) (by decide)) ⟨vp_in_nI (by omega) (by decide), fun a ea x ex => ?_⟩
    subst ea ex
    rw [nI_1 i, nI_clamp (n := i) (by omega)]
    exact ih (i + 1) (by omega)
theorem cr_yClear {post : SY → Prop} {c o n d vp : Int32} {st sp sl vw : Nat → Int32} (h : post (c, o, n, d, vp, cr_f st (fun q => q) (fun _ => 0) 16, sp, sl, vw)) : wpY_clearStaging post (c, o, n, d, vp, st, sp, sl, vw) := by
  unfold wpY_clearStaging
  exact Exists.intro 17 (cr_yClearL post c o n d vp st sp sl vw h 16 0 rfl)
theorem cr_yViewL (post : SY → Prop) (c o n d vp : Int32) (st sp sl vw : Nat → Int32) (h : post (c, o, n, d, vp, st, sp, sl, cr_f vw (fun q => q) (fun _ => 0) 16)) : ∀ m i : Nat, i + m = 16 → wY_clearView_7 post c o n d vp (m + 1) (nI i) st sp sl (cr_f vw (fun q => q) (fun _ => 0) i) := by
  intro m
  induction m with
  | zero =>
    intro i hi
    have e : i = 16 := by omega
    subst e
    exact br_t (nI_le (a := 16) (b := 16) (by decide) (by decide)) h
  | succ m ih =>
    intro i hi
    refine br_f (nI_ge (b := 16) (by omega) (by decide)) ⟨vp_in_nI (by omega) (by decide), fun a ea x ex => ?_⟩
    subst ea ex
    rw [nI_1 i, nI_clamp (n := i) (by omega)]
    exact ih (i + 1) (by omega)
theorem cr_yView {post : SY → Prop} {c o n d vp : Int32} {st sp sl vw : Nat → Int32} (h : post (c, o, n, d, -1, st, sp, sl, cr_f vw (fun q => q) (fun _ => 0) 16)) : wpY_clearView post (c, o, n, d, vp, st, sp, sl, vw) := by
  unfold wpY_clearView
  exact Exists.intro 17 (cr_yViewL post c o n d (-1) st sp sl vw h 16 0 rfl)
theorem cr_xResetL (post : SX → Prop) (c b o d : Int32) (st sl sp us : Nat → Int32) (h : post (c, 0, 1, 0, st, sl, sp, cr_f us (fun q => q) (fun _ => 0) 16)) : ∀ m i : Nat, i + m = 16 → wX_reset_2 post c b o d (m + 1) (nI i) st sl sp (cr_f us (fun q => q) (fun _ => 0) i) := by
  intro m
  induction m with
  | zero =>
    intro i hi
    have e : i = 16 := by omega
    subst e
    exact br_t (nI_le (a := 16) (b := 16) (by decide) (by decide)) h
  | succ m ih =>
    intro i hi
    refine br_f (nI_ge (b := 16) (by omega) (by decide)) ⟨vp_in_nI (by omega) (by decide), fun a ea x ex => ?_⟩
    subst ea ex
    rw [nI_1 i, nI_clamp (n := i) (by omega), cr_b0]
    exact ih (i + 1) (by omega)
theorem cr_xReset {post : SX → Prop} {c b o d : Int32} {st sl sp us : Nat → Int32} (h : post (c, 0, 1, 0, st, sl, sp, cr_f us (fun q => q) (fun _ => 0) 16)) : wpX_reset post (c, b, o, d, st, sl, sp, us) := by
  unfold wpX_reset
  exact Exists.intro 17 (cr_xResetL post c b o d st sl sp us h 16 0 rfl)
theorem cr_xCopyL (post : SX → Prop) (n : Nat) (hn : n < 6) (c b o d : Int32) (st sl sp us : Nat → Int32) (h : post (c, b, o, d, st, cr_f sl (fun q => n * 16 + q) st 16, sp, us)) : ∀ m i : Nat, i + m = 16 → wX_copyStagedTo_7 post (nI (n * 16)) c b o d (m + 1) (nI i) st (cr_f sl (fun q => n * 16 + q) st i) sp us := by
  intro m
  induction m with
  | zero =>
    intro i hi
    have e : i = 16 := by omega
    subst e
    exact br_t (nI_le (a := 16) (b := 16) (by decide) (by decide)) h
  | succ m ih =>
    intro i hi
    have e : nI (n * 16) + nI i = nI (n * 16 + i) := nI_add _ _
    refine br_f (nI_ge (b := 16) (by omega) (by decide)) ⟨vp_in_nI (by omega) (by decide), by rw [e]; exact vp_in_nI (by omega) (by decide), fun a ea x ex => ?_⟩
    subst ea ex
    rw [e, nI_1 i, nI_clamp (n := i) (by omega), nI_clamp (n := n * 16 + i) (by omega)]
    exact ih (i + 1) (by omega)
theorem cr_xCopy {post : SX → Prop} {n : Nat} (hn : n < 6) {c b o d : Int32} {st sl sp us : Nat → Int32} (h : post (c, b, o, d, st, cr_f sl (fun q => n * 16 + q) st 16, sp, us)) : wpX_copyStagedTo post (c, b, o, d, st, sl, sp, us) (nI n) := by
  unfold wpX_copyStagedTo
  exact nm_r (pk_mul n 16) (Exists.intro 17 (cr_xCopyL post n hn c b o d st sl sp us h 16 0 rfl))
theorem cr_yCopyL (post : Int32 → SY → Prop) (n : Nat) (hn : n < 6) (c o d vp : Int32) (st sp sl vw : Nat → Int32) (h : post (nI n) (c, o, nI (n + 1), d, vp, st, sp, cr_f sl (fun q => n * 16 + q) st 16, vw)) : ∀ m i : Nat, i + m = 16 → wY_commit_59 post c o (nI n) d vp (m + 1) (nI i) st sp (cr_f sl (fun q => n * 16 + q) st i) vw := by
  intro m
  induction m with
  | zero =>
    intro i hi
    have e : i = 16 := by omega
    subst e
    refine br_t (nI_le (a := 16) (b := 16) (by decide) (by decide)) (fun f ef => ?_)
    subst ef
    rw [nI_1 n, nI_pred n]
    exact h
  | succ m ih =>
    intro i hi
    refine br_f (nI_ge (b := 16) (by omega) (by decide)) ⟨vp_in_nI (by omega) (by decide), by rw [cr_o]; exact vp_in_nI (by omega) (by decide), fun a ea x ex => ?_⟩
    subst ea ex
    rw [cr_o, nI_1 i, nI_clamp (n := i) (by omega), nI_clamp (n := n * 16 + i) (by omega)]
    exact ih (i + 1) (by omega)
theorem cr_yDecL (post : Int32 → SY → Prop) (d : Nat) (hd : d < 6) (c o n vp : Int32) (st sp sl vw : Nat → Int32) (h : post vp (c, o, n, nI (d + 1), vp, st, sp, sl, cr_f vw (fun q => q) (fun q => sl (d * 16 + q)) 16)) : ∀ m i : Nat, i + m = 16 → wY_decodeNext_39 post c o n (nI d) vp (m + 1) (nI i) st sp sl (cr_f vw (fun q => q) (fun q => sl (d * 16 + q)) i) := by
  intro m
  induction m with
  | zero =>
    intro i hi
    have e : i = 16 := by omega
    subst e
    refine br_t (nI_le (a := 16) (b := 16) (by decide) (by decide)) (fun f ef => ?_)
    subst ef
    rw [nI_1 d]
    exact h
  | succ m ih =>
    intro i hi
    refine br_f (nI_ge (b := 16) (by omega) (by decide)) ⟨by rw [cr_o]; exact vp_in_nI (by omega) (by decide), vp_in_nI (by omega) (by decide), fun a ea x ex => ?_⟩
    subst ea ex
    rw [cr_o, nI_1 i, nI_clamp (n := i) (by omega), nI_clamp (n := d * 16 + i) (by omega)]
    exact ih (i + 1) (by omega)
theorem cr_yPlL (post : Int32 → Prop) (p n : Nat) (hn : n ≤ 6) (c o d vp : Int32) (st sp sl vw : Nat → Int32) : ∀ m i : Nat, i + m = n → ((post 1 ∧ ∃ k : Nat, i ≤ k ∧ k < n ∧ sp k = nI p) ∨ (post 0 ∧ ∀ k : Nat, i ≤ k → k < n → sp k ≠ nI p)) → wY_placeUsed_14 post (nI p) c o (nI n) d vp st sp sl vw (m + 1) (nI i) := by
  intro m
  induction m with
  | zero =>
    intro i hi H
    refine br_t (nI_le (by omega) (by omega)) ?_
    rcases H with ⟨_, k, h1, h2, _⟩ | ⟨h, _⟩
    · omega
    · exact h
  | succ m ih =>
    intro i hi H
    have ec : (nI i).toNatClampNeg = i := nI_clamp (by omega)
    refine br_f (nI_ge (by omega) (by omega)) (br_f (nI_ge (b := 6) (by omega) (by decide)) ⟨vp_in_nI (by omega) (by decide), br_c (fun z => ?_) (fun z x ex => ?_)⟩)
    · rw [ec] at z
      rcases H with ⟨h, _⟩ | ⟨_, h⟩
      · exact h
      · exact absurd z (h i (by omega) (by omega))
    · rw [ec] at z
      subst ex
      rw [nI_1 i]
      refine ih (i + 1) (by omega) ?_
      rcases H with ⟨h, k, h1, h2, h3⟩ | ⟨h, h1⟩
      · refine Or.inl ⟨h, k, ?_, h2, h3⟩
        by_cases e : k = i
        · subst e
          exact absurd h3 z
        · omega
      · exact Or.inr ⟨h, fun k a b => h1 k (by omega) b⟩
theorem cr_yPl {post : Int32 → Prop} {p n : Nat} (hp : p < 16) (hn : n ≤ 6) {c o d vp : Int32} {st sp sl vw : Nat → Int32} (H : (post 1 ∧ ∃ k : Nat, k < n ∧ sp k = nI p) ∨ (post 0 ∧ ∀ k : Nat, k < n → sp k ≠ nI p)) : wpY_placeUsed post (c, o, nI n, d, vp, st, sp, sl, vw) (nI p) := by
  unfold wpY_placeUsed
  refine br_f (nI_pos (by omega)) (br_t (nI_le (b := 15) (by omega) (by decide)) (Exists.intro (n + 1) (cr_yPlL post p n hn c o d vp st sp sl vw n 0 (by omega) ?_)))
  rcases H with ⟨h, k, h2, h3⟩ | ⟨h, h1⟩
  · exact Or.inl ⟨h, k, by omega, h2, h3⟩
  · exact Or.inr ⟨h, fun k _ b => h1 k b⟩
end
section
/-- what the two states share: counts in their bounds, no view while open, marked places, the view -/
def cr_R (c n d : Nat) (op vp : Int32) (sl sp us vw : Nat → Int32) : Prop := 1 ≤ c ∧ c ≤ 6 ∧ n ≤ c ∧ d ≤ n ∧ (op = 0 ∨ (op = 1 ∧ d = 0)) ∧ cr_U n sp us ∧ cr_V d sl sp vw vp
def i_Rel (_ : Nat) (u : SX) (v : SY) : Prop := ∃ (c n d : Nat) (op vp : Int32) (st sl sp us vw : Nat → Int32), u = (nI c, nI n, op, nI d, st, sl, sp, us) ∧ v = (nI c, op, nI n, nI d, vp, st, sp, sl, vw) ∧ cr_R c n d op vp sl sp us vw
theorem cr_mk (k : Nat) (c n d : Nat) {op vp : Int32} {st sl sp us vw : Nat → Int32} (R : cr_R c n d op vp sl sp us vw) : i_Rel k (nI c, nI n, op, nI d, st, sl, sp, us) (nI c, op, nI n, nI d, vp, st, sp, sl, vw) := ⟨c, n, d, op, vp, st, sl, sp, us, vw, rfl, rfl, R⟩
theorem i_up {k : Nat} {u : SX} {v : SY} (h : i_Rel k u v) : i_Rel (k + 4) u v := h
theorem i_vc0 (k0 : Int32) : wpX_init (fun u => wpY_init (fun v => i_Rel 1 u v) k0) k0 := by
  have R : ∀ c : Nat, 1 ≤ c → c ≤ 6 → cr_R c 0 0 1 (-1) (fun _ => 0) (fun _ => 0) (fun _ => 0) (fun _ => 0) := fun c h1 h6 => ⟨h1, h6, by omega, by omega, Or.inr ⟨rfl, rfl⟩, cr_U0 (fun _ _ => rfl), cr_V0 (fun _ _ => rfl)⟩
  unfold wpX_init wpX_clampBlocks wpY_init
  by_cases h1 : (1 : Int32) ≤ k0
  · obtain ⟨j, hj, rfl⟩ := nI_of (x := k0) (cr_n0 (n := 1) (by decide) h1)
    have h1' : 1 ≤ j := (nI_leI (a := 1) (by decide) hj).mp h1
    by_cases h6 : j ≤ 6
    · have h6' : nI j ≤ 6 := nI_le (b := 6) h6 (by decide)
      exact br_t h1 (br_t h6' (br_t h1 (br_t h6' (cr_mk 1 j 0 0 (R j h1' h6)))))
    · have h6' : ¬ nI j ≤ 6 := nI_ge (a := 6) (by omega) hj
      exact br_t h1 (br_f h6' (br_t h1 (br_f h6' (cr_mk 1 6 0 0 (R 6 (by decide) (by decide))))))
  · have h6' : (1 : Int32) ≤ 6 := by decide
    exact br_f h1 (br_f h1 (br_t h6' (cr_mk 1 1 0 0 (R 1 (by decide) (by decide)))))
theorem i_vc_setLevel {k : Nat} {u : SX} {v : SY} (I : i_Rel k u v) (hk : k + 4 ≤ 2049) (v1 : Int32) (v2 : Int32) : wpX_setLevel (fun r u' => wpY_setLevel (fun r' v' => r' = r ∧ i_Rel (k + 4) u' v') v v1 v2) u v1 v2 := by
  obtain ⟨c, n, d, op, vp, st, sl, sp, us, vw, rfl, rfl, R⟩ := I
  obtain ⟨r, hr, hX, hY⟩ := cr_lev v2
  unfold wpX_setLevel wpY_setLevel
  dsimp only
  rcases pk_ix v1 (n := 16) (by decide) with h | h | ⟨j, hj, rfl⟩
  · refine cr_ip0 (Or.inl h) (br_t rfl (br_t h ⟨rfl, cr_mk _ c n d R⟩))
  · refine cr_ip0 (Or.inr h) (br_t rfl (br_f (cr_n0 (by decide) h) (br_f (cr_nle 15 16 (by decide) (by decide) h) ⟨rfl, cr_mk _ c n d R⟩)))
  · have hi : vp_in (nI j) 16 := vp_in_nI hj (by decide)
    have hl : nI j ≤ 15 := nI_le (b := 15) (by omega) (by decide)
    have hp : ¬ nI j < 0 := nI_pos (by omega)
    refine cr_ip1 hj (br_f cr_10 (hX _ ?_))
    rcases hr with rfl | rfl
    · exact br_t rfl (br_f hp (br_t hl (hY _ _ (br_t rfl ⟨rfl, cr_mk _ c n d R⟩))))
    · refine br_f cr_10 ⟨hi, fun a ea => br_f hp (br_t hl (hY _ _ (br_f cr_10 ⟨hi, fun b eb => ⟨rfl, ?_⟩⟩)))⟩
      subst ea eb
      exact cr_mk _ c n d R
theorem i_vc_setPair {k : Nat} {u : SX} {v : SY} (I : i_Rel k u v) (hk : k + 4 ≤ 2049) (v1 : Int32) (v2 : Int32) (v3 : Int32) : wpX_setPair (fun r u' => wpY_setPair (fun r' v' => r' = r ∧ i_Rel (k + 4) u' v') v v1 v2 v3) u v1 v2 v3 := by
  obtain ⟨c, n, d, op, vp, st, sl, sp, us, vw, rfl, rfl, R⟩ := I
  obtain ⟨r, hr, hX, hY⟩ := cr_lev v2
  obtain ⟨s, hs, hX2, hY2⟩ := cr_lev v3
  unfold wpX_setPair wpY_setPair
  dsimp only
  rcases pk_ix v1 (n := 8) (by decide) with h | h | ⟨j, hj, rfl⟩
  · exact br_t h (br_t h ⟨rfl, cr_mk _ c n d R⟩)
  · exact br_f (cr_n0 (by decide) h) (br_t h (br_f (cr_n0 (by decide) h) (br_f (cr_nle 7 8 (by decide) (by decide) h) ⟨rfl, cr_mk _ c n d R⟩)))
  · have e2 : 2 * nI j = nI (2 * j) := pk_mul 2 j
    have e3 : nI (2 * j) + 1 = nI (2 * j + 1) := nI_1 _
    have hi : vp_in (2 * nI j) 16 := by rw [e2]; exact vp_in_nI (by omega) (by decide)
    have hi2 : vp_in (2 * nI j + 1) 16 := by rw [e2, e3]; exact vp_in_nI (by omega) (by decide)
    have hl : nI j ≤ 7 := nI_le (b := 7) (by omega) (by decide)
    have h8 : ¬ 8 ≤ nI j := nI_ge (b := 8) hj (by decide)
    have hp : ¬ nI j < 0 := nI_pos (by omega)
    refine br_f hp (br_f h8 (hX _ ?_))
    rcases hr with rfl | rfl
    · exact br_t rfl (br_f hp (br_t hl (hY _ _ (br_t rfl ⟨rfl, cr_mk _ c n d R⟩))))
    · refine br_f cr_10 (hX2 _ ?_)
      rcases hs with rfl | rfl
      · exact br_t rfl (br_f hp (br_t hl (hY _ _ (br_f cr_10 (hY2 _ _ (br_t rfl ⟨rfl, cr_mk _ c n d R⟩))))))
      · refine br_f cr_10 ⟨hi, fun a ea => ⟨hi2, fun a2 ea2 => br_f hp (br_t hl (hY _ _ (br_f cr_10 (hY2 _ _ (br_f cr_10 ⟨hi, fun b eb => ⟨hi2, fun b2 eb2 => ⟨rfl, ?_⟩⟩⟩)))))⟩⟩
        subst ea eb
        subst ea2 eb2
        exact cr_mk _ c n d R
theorem i_vc_clearStaging {k : Nat} {u : SX} {v : SY} (I : i_Rel k u v) (hk : k + 4 ≤ 2049) : wpX_clearStaging (fun u' => wpY_clearStaging (fun v' => i_Rel (k + 4) u' v') v) u := by
  obtain ⟨c, n, d, op, vp, st, sl, sp, us, vw, rfl, rfl, R⟩ := I
  exact cr_xClear (cr_yClear (cr_mk _ c n d R))
theorem i_vc_getStaged {k : Nat} {u : SX} {v : SY} (I : i_Rel k u v) (hk : k + 4 ≤ 2049) (v1 : Int32) : wpX_getStaged (fun r => wpY_getStaged (fun r' => r' = r ∧ i_Rel (k + 4) u v) v v1) u v1 := by
  have J := i_up I
  obtain ⟨c, n, d, op, vp, st, sl, sp, us, vw, rfl, rfl, R⟩ := I
  unfold wpX_getStaged wpY_getStaged
  dsimp only
  rcases pk_ix v1 (n := 16) (by decide) with h | h | ⟨j, hj, rfl⟩
  · exact cr_ip0 (Or.inl h) (br_t rfl (br_t h ⟨rfl, J⟩))
  · exact cr_ip0 (Or.inr h) (br_t rfl (br_f (cr_n0 (by decide) h) (br_f (cr_nle 15 16 (by decide) (by decide) h) ⟨rfl, J⟩)))
  · have hi : vp_in (nI j) 16 := vp_in_nI hj (by decide)
    exact cr_ip1 hj (br_f cr_10 ⟨hi, br_f (nI_pos (by omega)) (br_t (nI_le (b := 15) (by omega) (by decide)) ⟨hi, rfl, J⟩)⟩)
theorem i_vc_commit {k : Nat} {u : SX} {v : SY} (I : i_Rel k u v) (hk : k + 4 ≤ 2049) (v1 : Int32) : wpX_commit (fun r u' => wpY_commit (fun r' v' => r' = r ∧ i_Rel (k + 4) u' v') v v1) u v1 := by
  obtain ⟨c, n, d, op, vp, st, sl, sp, us, vw, rfl, rfl, R⟩ := I
  have R' := R
  obtain ⟨hc1, hc6, hn, hd, ho, hU, hV⟩ := R'
  unfold wpX_commit wpY_commit
  dsimp only
  rcases ho with rfl | ⟨rfl, rfl⟩
  · exact br_t rfl (br_t rfl ⟨rfl, cr_mk _ c n d R⟩)
  · rcases pk_ix v1 (n := 16) (by decide) with h | h | ⟨p, hp, rfl⟩
    · exact br_f cr_10 (cr_il0 (Or.inl h) (br_t rfl (br_f cr_10 (br_t h ⟨rfl, cr_mk _ c n 0 R⟩))))
    · exact br_f cr_10 (cr_il0 (Or.inr h) (br_t rfl (br_f cr_10 (br_f (cr_n0 (by decide) h) (br_f (cr_nle 15 16 (by decide) (by decide) h) ⟨rfl, cr_mk _ c n 0 R⟩)))))
    · have hi : vp_in (nI p) 16 := vp_in_nI hp (by decide)
      have hl : nI p ≤ 15 := nI_le (b := 15) (by omega) (by decide)
      have h0 : ¬ nI p < 0 := nI_pos (by omega)
      have ec : (nI p).toNatClampNeg = p := nI_clamp (by omega)
      have en : (nI n).toNatClampNeg = n := nI_clamp (by omega)
      refine br_f cr_10 (cr_il1 hp (br_f cr_10 ⟨hi, ?_⟩))
      rw [ec]
      rcases hU p hp with ⟨u1, uk⟩ | ⟨u0, uk⟩
      · exact br_f (by rw [u1]; exact cr_10) (br_f cr_10 (br_f h0 (br_t hl (cr_yPl hp (by omega) (Or.inl ⟨br_f cr_10 ⟨rfl, cr_mk _ c n 0 R⟩, uk⟩)))))
      · refine br_t u0 ?_
        by_cases hf : n < c
        · have hx : nI n < nI c := nI_lt hf (by omega)
          have hb : vp_in (nI n) 6 := vp_in_nI (by omega) (by decide)
          refine br_t hx (cr_xCopy (by omega) ?_)
          refine ⟨hb, fun a ea => ⟨hi, fun b eb m em => ?_⟩⟩
          refine br_f cr_10 (br_f h0 (br_t hl (cr_yPl hp (by omega) (Or.inr ⟨?_, uk⟩))))
          refine br_t rfl (br_t hx ⟨hb, fun a2 ea2 => Exists.intro 17 ?_⟩)
          rw [en] at ea ea2
          rw [nI_1] at em
          rw [cr_b1] at eb
          subst ea eb em ea2
          refine cr_yCopyL _ n (by omega) _ _ _ _ _ _ _ _ ?_ 16 0 rfl
          exact ⟨rfl, cr_mk _ c (n + 1) 0 ⟨hc1, hc6, by omega, by omega, Or.inr ⟨rfl, rfl⟩, cr_U1 hU hp, cr_V0c hV⟩⟩
        · have hx : ¬ nI n < nI c := nI_nlt (by omega) (by omega)
          exact br_f hx (br_f cr_10 (br_f h0 (br_t hl (cr_yPl hp (by omega) (Or.inr ⟨br_t rfl (br_f hx ⟨rfl, cr_mk _ c n 0 R⟩), uk⟩)))))
theorem i_vc_finish {k : Nat} {u : SX} {v : SY} (I : i_Rel k u v) (hk : k + 4 ≤ 2049) : wpX_finish (fun r u' => wpY_finish (fun r' v' => r' = r ∧ i_Rel (k + 4) u' v') v) u := by
  obtain ⟨c, n, d, op, vp, st, sl, sp, us, vw, rfl, rfl, R⟩ := I
  have R' := R
  obtain ⟨hc1, hc6, hn, hd, ho, hU, hV⟩ := R'
  unfold wpX_finish wpY_finish
  dsimp only
  rcases ho with rfl | ⟨rfl, rfl⟩
  · exact br_t rfl (br_t rfl ⟨rfl, cr_mk _ c n d R⟩)
  · refine br_f cr_10 (br_f cr_10 (cr_yView ?_))
    exact ⟨rfl, cr_mk _ c n 0 ⟨hc1, hc6, hn, by omega, Or.inl rfl, hU, cr_V0 (cr_f_in0 _ _ 16)⟩⟩
theorem i_vc_decodeNext {k : Nat} {u : SX} {v : SY} (I : i_Rel k u v) (hk : k + 4 ≤ 2049) : wpX_decodeNext (fun r u' => wpY_decodeNext (fun r' v' => r' = r ∧ i_Rel (k + 4) u' v') v) u := by
  obtain ⟨c, n, d, op, vp, st, sl, sp, us, vw, rfl, rfl, R⟩ := I
  have R' := R
  obtain ⟨hc1, hc6, hn, hd, ho, hU, hV⟩ := R'
  unfold wpX_decodeNext wpY_decodeNext
  dsimp only
  rcases ho with rfl | ⟨rfl, rfl⟩
  · by_cases hf : d < n
    · have hx : nI d < nI n := nI_lt hf (by omega)
      have hb : vp_in (nI d) 6 := vp_in_nI (by omega) (by decide)
      have ed : (nI d).toNatClampNeg = d := nI_clamp (by omega)
      refine br_t rfl (br_t hx ⟨hb, fun a ea m em => ?_⟩)
      refine br_t rfl (br_t hx ⟨hb, fun a2 ea2 => Exists.intro 17 ?_⟩)
      rw [ed] at ea ea2
      rw [nI_1] at em
      subst ea em ea2
      refine cr_yDecL _ d (by omega) _ _ _ _ _ _ _ _ ?_ 16 0 rfl
      exact ⟨rfl, cr_mk _ c n (d + 1) ⟨hc1, hc6, hn, by omega, Or.inl rfl, hU, cr_V1 (cr_f_in0 _ _ 16)⟩⟩
    · have hx : ¬ nI d < nI n := nI_nlt (by omega) (by omega)
      exact br_t rfl (br_f hx (br_t rfl (br_f hx ⟨rfl, cr_mk _ c n d R⟩)))
  · exact br_f cr_10 (br_f cr_10 ⟨rfl, cr_mk _ c n 0 R⟩)
theorem i_vc_rewind {k : Nat} {u : SX} {v : SY} (I : i_Rel k u v) (hk : k + 4 ≤ 2049) : wpX_rewind (fun r u' => wpY_rewind (fun r' v' => r' = r ∧ i_Rel (k + 4) u' v') v) u := by
  obtain ⟨c, n, d, op, vp, st, sl, sp, us, vw, rfl, rfl, R⟩ := I
  have R' := R
  obtain ⟨hc1, hc6, hn, hd, ho, hU, hV⟩ := R'
  unfold wpX_rewind wpY_rewind
  dsimp only
  rcases ho with rfl | ⟨rfl, rfl⟩
  · refine br_t rfl (br_t rfl (cr_yView ?_))
    exact ⟨rfl, cr_mk _ c n 0 ⟨hc1, hc6, hn, by omega, Or.inl rfl, hU, cr_V0 (cr_f_in0 _ _ 16)⟩⟩
  · exact br_f cr_10 (br_f cr_10 ⟨rfl, cr_mk _ c n 0 R⟩)
theorem i_vc_reset {k : Nat} {u : SX} {v : SY} (I : i_Rel k u v) (hk : k + 4 ≤ 2049) : wpX_reset (fun u' => wpY_reset (fun v' => i_Rel (k + 4) u' v') v) u := by
  obtain ⟨c, n, d, op, vp, st, sl, sp, us, vw, rfl, rfl, hc1, hc6, hn, hd, ho, hU, hV⟩ := I
  refine cr_xReset ?_
  unfold wpY_reset
  refine cr_yView ?_
  exact cr_mk _ c 0 0 ⟨hc1, hc6, by omega, by omega, Or.inr ⟨rfl, rfl⟩, cr_U0 (cr_f_in0 _ _ 16), cr_V0 (cr_f_in0 _ _ 16)⟩
theorem i_vc_getDecoded {k : Nat} {u : SX} {v : SY} (I : i_Rel k u v) (hk : k + 4 ≤ 2049) (v1 : Int32) : wpX_getDecoded (fun r => wpY_getDecoded (fun r' => r' = r ∧ i_Rel (k + 4) u v) v v1) u v1 := by
  have J := i_up I
  obtain ⟨c, n, d, op, vp, st, sl, sp, us, vw, rfl, rfl, hc1, hc6, hn, hd, ho, hU, hV⟩ := I
  unfold wpX_getDecoded wpY_getDecoded
  dsimp only
  cases d with
  | zero =>
    refine br_t rfl ?_
    rcases pk_ix v1 (n := 16) (by decide) with h | h | ⟨j, hj, rfl⟩
    · exact br_t h ⟨rfl, J⟩
    · exact br_f (cr_n0 (by decide) h) (br_f (cr_nle 15 16 (by decide) (by decide) h) ⟨rfl, J⟩)
    · refine br_f (nI_pos (by omega)) (br_t (nI_le (b := 15) (by omega) (by decide)) ⟨vp_in_nI hj (by decide), ?_, J⟩)
      rw [nI_clamp (n := j) (by omega)]
      exact (hV.1 rfl).2 j hj
  | succ e =>
    refine br_f (nI_ne0 (by omega) (by omega)) ?_
    rcases pk_ix v1 (n := 16) (by decide) with h | h | ⟨j, hj, rfl⟩
    · exact cr_ip0 (Or.inl h) (br_t rfl (br_t h ⟨rfl, J⟩))
    · exact cr_ip0 (Or.inr h) (br_t rfl (br_f (cr_n0 (by decide) h) (br_f (cr_nle 15 16 (by decide) (by decide) h) ⟨rfl, J⟩)))
    · have ee : (nI (e + 1) - 1) * 16 + nI j = nI (e * 16 + j) := by rw [nI_pred e, cr_o]
      refine cr_ip1 hj (br_f cr_10 ⟨by rw [ee]; exact vp_in_nI (by omega) (by decide), ?_⟩)
      refine br_f (nI_pos (by omega)) (br_t (nI_le (b := 15) (by omega) (by decide)) ⟨vp_in_nI hj (by decide), ?_, J⟩)
      rw [ee, nI_clamp (n := j) (by omega), nI_clamp (n := e * 16 + j) (by omega)]
      exact (hV.2 e rfl).2 j hj
theorem i_vc_decodedPlace {k : Nat} {u : SX} {v : SY} (I : i_Rel k u v) (hk : k + 4 ≤ 2049) : wpX_decodedPlace (fun r => wpY_decodedPlace (fun r' => r' = r ∧ i_Rel (k + 4) u v) v) u := by
  have J := i_up I
  obtain ⟨c, n, d, op, vp, st, sl, sp, us, vw, rfl, rfl, hc1, hc6, hn, hd, ho, hU, hV⟩ := I
  unfold wpX_decodedPlace wpY_decodedPlace
  dsimp only
  cases d with
  | zero => exact br_t rfl ⟨(hV.1 rfl).1, J⟩
  | succ e =>
    refine br_f (nI_ne0 (by omega) (by omega)) ⟨by rw [nI_pred e]; exact vp_in_nI (by omega) (by decide), ?_, J⟩
    rw [nI_pred e, nI_clamp (n := e) (by omega)]
    exact (hV.2 e rfl).1
theorem i_vc_decodedCount {k : Nat} {u : SX} {v : SY} (I : i_Rel k u v) (hk : k + 4 ≤ 2049) : wpX_decodedCount (fun r => wpY_decodedCount (fun r' => r' = r ∧ i_Rel (k + 4) u v) v) u := by
  have J := i_up I
  obtain ⟨c, n, d, op, vp, st, sl, sp, us, vw, rfl, rfl, R⟩ := I
  exact ⟨rfl, J⟩
theorem i_vc_blockCount {k : Nat} {u : SX} {v : SY} (I : i_Rel k u v) (hk : k + 4 ≤ 2049) : wpX_blockCount (fun r => wpY_blockCount (fun r' => r' = r ∧ i_Rel (k + 4) u v) v) u := by
  have J := i_up I
  obtain ⟨c, n, d, op, vp, st, sl, sp, us, vw, rfl, rfl, R⟩ := I
  exact ⟨rfl, J⟩
theorem i_vc_isOpen {k : Nat} {u : SX} {v : SY} (I : i_Rel k u v) (hk : k + 4 ≤ 2049) : wpX_isOpen (fun r => wpY_isOpen (fun r' => r' = r ∧ i_Rel (k + 4) u v) v) u := by
  have J := i_up I
  obtain ⟨c, n, d, op, vp, st, sl, sp, us, vw, rfl, rfl, hc1, hc6, hn, hd, ho, hU, hV⟩ := I
  unfold wpX_isOpen wpY_isOpen
  dsimp only
  rcases ho with rfl | ⟨rfl, rfl⟩
  · exact ⟨rfl, rfl, rfl, J⟩
  · exact ⟨rfl, rfl, rfl, J⟩
theorem i_vc_placeUsed {k : Nat} {u : SX} {v : SY} (I : i_Rel k u v) (hk : k + 4 ≤ 2049) (v1 : Int32) : wpX_placeUsed (fun r => wpY_placeUsed (fun r' => r' = r ∧ i_Rel (k + 4) u v) v v1) u v1 := by
  have J := i_up I
  obtain ⟨c, n, d, op, vp, st, sl, sp, us, vw, rfl, rfl, hc1, hc6, hn, hd, ho, hU, hV⟩ := I
  unfold wpX_placeUsed
  dsimp only
  rcases pk_ix v1 (n := 16) (by decide) with h | h | ⟨p, hp, rfl⟩
  · refine cr_il0 (Or.inl h) (br_t rfl ?_)
    unfold wpY_placeUsed
    exact br_t h ⟨rfl, J⟩
  · refine cr_il0 (Or.inr h) (br_t rfl ?_)
    unfold wpY_placeUsed
    exact br_f (cr_n0 (by decide) h) (br_f (cr_nle 15 16 (by decide) (by decide) h) ⟨rfl, J⟩)
  · refine cr_il1 hp (br_f cr_10 ⟨vp_in_nI hp (by decide), ?_⟩)
    rw [nI_clamp (n := p) (by omega)]
    rcases hU p hp with ⟨u1, uk⟩ | ⟨u0, uk⟩
    · exact br_f (by rw [u1]; exact cr_10) (cr_yPl hp (by omega) (Or.inl ⟨⟨rfl, J⟩, uk⟩))
    · exact br_t u0 (cr_yPl hp (by omega) (Or.inr ⟨⟨rfl, J⟩, uk⟩))
theorem i_vc_capacity {k : Nat} {u : SX} {v : SY} (I : i_Rel k u v) (hk : k + 4 ≤ 2049) : wpX_capacity (fun r => wpY_capacity (fun r' => r' = r ∧ i_Rel (k + 4) u v) v) u := by
  have J := i_up I
  obtain ⟨c, n, d, op, vp, st, sl, sp, us, vw, rfl, rfl, R⟩ := I
  exact ⟨rfl, J⟩
end
