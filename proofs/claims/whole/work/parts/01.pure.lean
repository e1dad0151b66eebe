theorem pk_us {f : Nat → Int32} {k : Nat} {x : Int32} : upd f k x k = x := if_pos rfl
theorem pk_un {f : Nat → Int32} {k j : Nat} {x : Int32} (h : j ≠ k) : upd f k x j = f j := if_neg h
theorem pk_mul (a b : Nat) : nI a * nI b = nI (a * b) := (Int32.ofNat_mul a b).symm
theorem pk_ix (x : Int32) {n : Nat} (hn : n < 2 ^ 31) : x < 0 ∨ nI n ≤ x ∨ ∃ j : Nat, j < n ∧ x = nI j := by
  by_cases h : x < 0
  · exact Or.inl h
  · obtain ⟨j, hj, rfl⟩ := nI_of h
    by_cases h2 : j < n
    · exact Or.inr (Or.inr ⟨j, h2, rfl⟩)
    · exact Or.inr (Or.inl (nI_le (by omega) hj))
/-- an array after i stores, the j-th of vl j at ix j -/
def cr_f (a : Nat → Int32) (ix : Nat → Nat) (vl : Nat → Int32) : Nat → (Nat → Int32)
  | 0 => a
  | i + 1 => upd (cr_f a ix vl i) (ix i) (vl i)
theorem cr_f_in0 (a : Nat → Int32) (vl : Nat → Int32) : ∀ i j : Nat, j < i → cr_f a (fun q => q) vl i j = vl j := by
  intro i
  induction i with
  | zero => intro j h; omega
  | succ i ih =>
    intro j h
    by_cases e : j = i
    · cases e
      exact pk_us
    · exact (pk_un (by omega)).trans (ih j (by omega))
/-- a place is marked just when one of the first n blocks has it -/
def cr_U (n : Nat) (sp us : Nat → Int32) : Prop := ∀ p : Nat, p < 16 → (us p = 1 ∧ ∃ k : Nat, k < n ∧ sp k = nI p) ∨ (us p = 0 ∧ ∀ k : Nat, k < n → sp k ≠ nI p)
/-- the view is block d - 1, or nothing at 0 -/
def cr_V (d : Nat) (sl sp vw : Nat → Int32) (vp : Int32) : Prop := (d = 0 → vp = -1 ∧ ∀ p : Nat, p < 16 → vw p = 0) ∧ (∀ e : Nat, d = e + 1 → vp = sp e ∧ ∀ p : Nat, p < 16 → vw p = sl (e * 16 + p))
theorem cr_V0 {sl sp vw : Nat → Int32} (h : ∀ p : Nat, p < 16 → vw p = 0) : cr_V 0 sl sp vw (-1) := ⟨fun _ => ⟨rfl, h⟩, fun e he => by omega⟩
theorem cr_V0c {sl sp sl' sp' vw : Nat → Int32} {vp : Int32} (h : cr_V 0 sl sp vw vp) : cr_V 0 sl' sp' vw vp := ⟨h.1, fun e he => by omega⟩
theorem cr_V1 {d : Nat} {sl sp vw : Nat → Int32} (h : ∀ p : Nat, p < 16 → vw p = sl (d * 16 + p)) : cr_V (d + 1) sl sp vw (sp d) := ⟨fun z => by omega, fun e he => by
  have e2 : e = d := by omega
  cases e2
  exact ⟨rfl, h⟩⟩
theorem cr_U0 {sp us : Nat → Int32} (h : ∀ p : Nat, p < 16 → us p = 0) : cr_U 0 sp us := fun p hp => Or.inr ⟨h p hp, fun k hk => by omega⟩
theorem cr_U1 {n p : Nat} {sp us : Nat → Int32} (h : cr_U n sp us) (hp : p < 16) : cr_U (n + 1) (upd sp n (nI p)) (upd us p 1) := by
  intro q hq
  by_cases e : q = p
  · cases e
    exact Or.inl ⟨pk_us, n, by omega, pk_us⟩
  · rcases h q hq with ⟨h1, k, hk, hs⟩ | ⟨h0, hs⟩
    · exact Or.inl ⟨(pk_un e).trans h1, k, by omega, (pk_un (by omega)).trans hs⟩
    · refine Or.inr ⟨(pk_un e).trans h0, fun k hk => ?_⟩
      by_cases z : k = n
      · cases z
        rw [pk_us]
        intro w
        rw [nI_eq (by omega) (by omega)] at w
        omega
      · rw [pk_un z]
        exact hs k (by omega)
theorem cr_10 : ¬ (1 : Int32) = 0 := by decide
theorem cr_n0 {x : Int32} {n : Nat} (hn : n < 2 ^ 31) (h : nI n ≤ x) : ¬ x < 0 := by
  intro z
  rw [Int32.lt_iff_toInt_lt] at z
  rw [Int32.le_iff_toInt_le, nI_toInt hn] at h
  have h0 : (0 : Int32).toInt = 0 := by decide
  omega
theorem cr_nle {x : Int32} (m n : Nat) (hmn : m < n) (hn : n < 2 ^ 31) (h : nI n ≤ x) : ¬ x ≤ nI m := by
  intro z
  rw [Int32.le_iff_toInt_le, nI_toInt (by omega)] at z
  rw [Int32.le_iff_toInt_le, nI_toInt hn] at h
  omega
theorem cr_b1 : vp_nar .boolean 1 = 1 := rfl
theorem cr_b0 : vp_nar .boolean 0 = 0 := rfl
theorem cr_o {n i : Nat} : nI n * 16 + nI i = nI (n * 16 + i) := by
  rw [show nI n * 16 = nI (n * 16) from pk_mul n 16, nI_add]
