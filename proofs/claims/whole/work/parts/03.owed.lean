/-- what the two states share: counts in their bounds, no view while open, marked places, the view -/
def cr_R (c n d : Nat) (op vp : Int32) (sl sp us vw : Nat → Int32) : Prop := 1 ≤ c ∧ c ≤ 6 ∧ n ≤ c ∧ d ≤ n ∧ (op = 0 ∨ (op = 1 ∧ d = 0)) ∧ cr_U n sp us ∧ cr_V d sl sp vw vp
def i_Rel (_ : Nat) (u : SX) (v : SY) : Prop := ∃ (c n d : Nat) (op vp : Int32) (st sl sp us vw : Nat → Int32), u = (nI c, nI n, op, nI d, st, sl, sp, us) ∧ v = (nI c, op, nI n, nI d, vp, st, sp, sl, vw) ∧ cr_R c n d op vp sl sp us vw
theorem cr_mk (k : Nat) (c n d : Nat) {op vp : Int32} {st sl sp us vw : Nat → Int32} (R : cr_R c n d op vp sl sp us vw) : i_Rel k (nI c, nI n, op, nI d, st, sl, sp, us) (nI c, op, nI n, nI d, vp, st, sp, sl, vw) := ⟨c, n, d, op, vp, st, sl, sp, us, vw, rfl, rfl, R⟩
theorem i_up {k : Nat} {u : SX} {v : SY} (h : i_Rel k u v) : i_Rel (k + 4) u v := h
theorem i_vc0 (k0 : Int32) : wpX_init (fun u => wpY_init (fun v => i_Rel 1 u v) k0) k0 := by
  have R : ∀ c : Nat, 1 ≤ c → c ≤ 6 → cr_R c 0 0 1 (-1) (fun _ => 0) (fun _ => 0) (fun _ => 0) (fun _ => 0) := fun c h1 h6 => ⟨h1, h6, by omega, by omega, Or.inr ⟨rfl, rfl⟩, cr_U0 (fun _ _ => rfl), cr_V0 (fun _ _ => rfl)⟩
  unfold wpX_init wpX_clampBlocks wpY_init
  by_cases h1 : (1 : Int32) ≤ k0
  · obtain ⟨j, hj, rfl⟩ := nI_of (x := k0) (cr_n0 (n := 1) (by decide) h1)
    have h1' : 1 ≤ j := (nI_leI (a := 1) (by decide) hj).mp h1
    by_cases h6 : j ≤ 6
    · have h6' : nI j ≤ 6 := nI_le (b := 6) h6 (by decide)
      exact br_t h1 (br_t h6' (br_t h1 (br_t h6' (cr_mk 1 j 0 0 (R j h1' h6)))))
    · have h6' : ¬ nI j ≤ 6 := nI_ge (a := 6) (by omega) hj
      exact br_t h1 (br_f h6' (br_t h1 (br_f h6' (cr_mk 1 6 0 0 (R 6 (by decide) (by decide))))))
  · have h6' : (1 : Int32) ≤ 6 := by decide
    exact br_f h1 (br_f h1 (br_t h6' (cr_mk 1 1 0 0 (R 1 (by decide) (by decide)))))
theorem i_vc_setLevel {k : Nat} {u : SX} {v : SY} (I : i_Rel k u v) (hk : k + 4 ≤ 2049) (v1 : Int32) (v2 : Int32) : wpX_setLevel (fun r u' => wpY_setLevel (fun r' v' => r' = r ∧ i_Rel (k + 4) u' v') v v1 v2) u v1 v2 := by
  obtain ⟨c, n, d, op, vp, st, sl, sp, us, vw, rfl, rfl, R⟩ := I
  obtain ⟨r, hr, hX, hY⟩ := cr_lev v2
  unfold wpX_setLevel wpY_setLevel
  dsimp only
  rcases pk_ix v1 (n := 16) (by decide) with h | h | ⟨j, hj, rfl⟩
  · refine cr_ip0 (Or.inl h) (br_t rfl (br_t h ⟨rfl, cr_mk _ c n d R⟩))
  · refine cr_ip0 (Or.inr h) (br_t rfl (br_f (cr_n0 (by decide) h) (br_f (cr_nle 15 16 (by decide) (by decide) h) ⟨rfl, cr_mk _ c n d R⟩)))
  · have hi : vp_in (nI j) 16 := vp_in_nI hj (by decide)
    have hl : nI j ≤ 15 := nI_le (b := 15) (by omega) (by decide)
    have hp : ¬ nI j < 0 := nI_pos (by omega)
    refine cr_ip1 hj (br_f cr_10 (hX _ ?_))
    rcases hr with rfl | rfl
    · exact br_t rfl (br_f hp (br_t hl (hY _ _ (br_t rfl ⟨rfl, cr_mk _ c n d R⟩))))
    · refine br_f cr_10 ⟨hi, fun a ea => br_f hp (br_t hl (hY _ _ (br_f cr_10 ⟨hi, fun b eb => ⟨rfl, ?_⟩⟩)))⟩
      subst ea eb
      exact cr_mk _ c n d R
theorem i_vc_setPair {k : Nat} {u : SX} {v : SY} (I : i_Rel k u v) (hk : k + 4 ≤ 2049) (v1 : Int32) (v2 : Int32) (v3 : Int32) : wpX_setPair (fun r u' => wpY_setPair (fun r' v' => r' = r ∧ i_Rel (k + 4) u' v') v v1 v2 v3) u v1 v2 v3 := by
  obtain ⟨c, n, d, op, vp, st, sl, sp, us, vw, rfl, rfl, R⟩ := I
  obtain ⟨r, hr, hX, hY⟩ := cr_lev v2
  obtain ⟨s, hs, hX2, hY2⟩ := cr_lev v3
  unfold wpX_setPair wpY_setPair
  dsimp only
  rcases pk_ix v1 (n := 8) (by decide) with h | h | ⟨j, hj, rfl⟩
  · exact br_t h (br_t h ⟨rfl, cr_mk _ c n d R⟩)
  · exact br_f (cr_n0 (by decide) h) (br_t h (br_f (cr_n0 (by decide) h) (br_f (cr_nle 7 8 (by decide) (by decide) h) ⟨rfl, cr_mk _ c n d R⟩)))
  · have e2 : 2 * nI j = nI (2 * j) := pk_mul 2 j
    have e3 : nI (2 * j) + 1 = nI (2 * j + 1) := nI_1 _
    have hi : vp_in (2 * nI j) 16 := by rw [e2]; exact vp_in_nI (by omega) (by decide)
    have hi2 : vp_in (2 * nI j + 1) 16 := by rw [e2, e3]; exact vp_in_nI (by omega) (by decide)
    have hl : nI j ≤ 7 := nI_le (b := 7) (by omega) (by decide)
    have h8 : ¬ 8 ≤ nI j := nI_ge (b := 8) hj (by decide)
    have hp : ¬ nI j < 0 := nI_pos (by omega)
    refine br_f hp (br_f h8 (hX _ ?_))
    rcases hr with rfl | rfl
    · exact br_t rfl (br_f hp (br_t hl (hY _ _ (br_t rfl ⟨rfl, cr_mk _ c n d R⟩))))
    · refine br_f cr_10 (hX2 _ ?_)
      rcases hs with rfl | rfl
      · exact br_t rfl (br_f hp (br_t hl (hY _ _ (br_f cr_10 (hY2 _ _ (br_t rfl ⟨rfl, cr_mk _ c n d R⟩))))))
      · refine br_f cr_10 ⟨hi, fun a ea => ⟨hi2, fun a2 ea2 => br_f hp (br_t hl (hY _ _ (br_f cr_10 (hY2 _ _ (br_f cr_10 ⟨hi, fun b eb => ⟨hi2, fun b2 eb2 => ⟨rfl, ?_⟩⟩⟩)))))⟩⟩
        subst ea eb
        subst ea2 eb2
        exact cr_mk _ c n d R
theorem i_vc_clearStaging {k : Nat} {u : SX} {v : SY} (I : i_Rel k u v) (hk : k + 4 ≤ 2049) : wpX_clearStaging (fun u' => wpY_clearStaging (fun v' => i_Rel (k + 4) u' v') v) u := by
  obtain ⟨c, n, d, op, vp, st, sl, sp, us, vw, rfl, rfl, R⟩ := I
  exact cr_xClear (cr_yClear (cr_mk _ c n d R))
theorem i_vc_getStaged {k : Nat} {u : SX} {v : SY} (I : i_Rel k u v) (hk : k + 4 ≤ 2049) (v1 : Int32) : wpX_getStaged (fun r => wpY_getStaged (fun r' => r' = r ∧ i_Rel (k + 4) u v) v v1) u v1 := by
  have J := i_up I
  obtain ⟨c, n, d, op, vp, st, sl, sp, us, vw, rfl, rfl, R⟩ := I
  unfold wpX_getStaged wpY_getStaged
  dsimp only
  rcases pk_ix v1 (n := 16) (by decide) with h | h | ⟨j, hj, rfl⟩
  · exact cr_ip0 (Or.inl h) (br_t rfl (br_t h ⟨rfl, J⟩))
  · exact cr_ip0 (Or.inr h) (br_t rfl (br_f (cr_n0 (by decide) h) (br_f (cr_nle 15 16 (by decide) (by decide) h) ⟨rfl, J⟩)))
  · have hi : vp_in (nI j) 16 := vp_in_nI hj (by decide)
    exact cr_ip1 hj (br_f cr_10 ⟨hi, br_f (nI_pos (by omega)) (br_t (nI_le (b := 15) (by omega) (by decide)) ⟨hi, rfl, J⟩)⟩)
theorem i_vc_commit {k : Nat} {u : SX} {v : SY} (I : i_Rel k u v) (hk : k + 4 ≤ 2049) (v1 : Int32) : wpX_commit (fun r u' => wpY_commit (fun r' v' => r' = r ∧ i_Rel (k + 4) u' v') v v1) u v1 := by
  obtain ⟨c, n, d, op, vp, st, sl, sp, us, vw, rfl, rfl, R⟩ := I
  have R' := R
  obtain ⟨hc1, hc6, hn, hd, ho, hU, hV⟩ := R'
  unfold wpX_commit wpY_commit
  dsimp only
  rcases ho with rfl | ⟨rfl, rfl⟩
  · exact br_t rfl (br_t rfl ⟨rfl, cr_mk _ c n d R⟩)
  · rcases pk_ix v1 (n := 16) (by decide) with h | h | ⟨p, hp, rfl⟩
    · exact br_f cr_10 (cr_il0 (Or.inl h) (br_t rfl (br_f cr_10 (br_t h ⟨rfl, cr_mk _ c n 0 R⟩))))
    · exact br_f cr_10 (cr_il0 (Or.inr h) (br_t rfl (br_f cr_10 (br_f (cr_n0 (by decide) h) (br_f (cr_nle 15 16 (by decide) (by decide) h) ⟨rfl, cr_mk _ c n 0 R⟩)))))
    · have hi : vp_in (nI p) 16 := vp_in_nI hp (by decide)
      have hl : nI p ≤ 15 := nI_le (b := 15) (by omega) (by decide)
      have h0 : ¬ nI p < 0 := nI_pos (by omega)
      have ec : (nI p).toNatClampNeg = p := nI_clamp (by omega)
      have en : (nI n).toNatClampNeg = n := nI_clamp (by omega)
      refine br_f cr_10 (cr_il1 hp (br_f cr_10 ⟨hi, ?_⟩))
      rw [ec]
      rcases hU p hp with ⟨u1, uk⟩ | ⟨u0, uk⟩
      · exact br_f (by rw [u1]; exact cr_10) (br_f cr_10 (br_f h0 (br_t hl (cr_yPl hp (by omega) (Or.inl ⟨br_f cr_10 ⟨rfl, cr_mk _ c n 0 R⟩, uk⟩)))))
      · refine br_t u0 ?_
        by_cases hf : n < c
        · have hx : nI n < nI c := nI_lt hf (by omega)
          have hb : vp_in (nI n) 6 := vp_in_nI (by omega) (by decide)
          refine br_t hx (cr_xCopy (by omega) ?_)
          refine ⟨hb, fun a ea => ⟨hi, fun b eb m em => ?_⟩⟩
          refine br_f cr_10 (br_f h0 (br_t hl (cr_yPl hp (by omega) (Or.inr ⟨?_, uk⟩))))
          refine br_t rfl (br_t hx ⟨hb, fun a2 ea2 => Exists.intro 17 ?_⟩)
          rw [en] at ea ea2
          rw [nI_1] at em
          rw [cr_b1] at eb
          subst ea eb em ea2
          refine cr_yCopyL _ n (by omega) _ _ _ _ _ _ _ _ ?_ 16 0 rfl
          exact ⟨rfl, cr_mk _ c (n + 1) 0 ⟨hc1, hc6, by omega, by omega, Or.inr ⟨rfl, rfl⟩, cr_U1 hU hp, cr_V0c hV⟩⟩
        · have hx : ¬ nI n < nI c := nI_nlt (by omega) (by omega)
          exact br_f hx (br_f cr_10 (br_f h0 (br_t hl (cr_yPl hp (by omega) (Or.inr ⟨br_t rfl (br_f hx ⟨rfl, cr_mk _ c n 0 R⟩), uk⟩)))))
theorem i_vc_finish {k : Nat} {u : SX} {v : SY} (I : i_Rel k u v) (hk : k + 4 ≤ 2049) : wpX_finish (fun r u' => wpY_finish (fun r' v' => r' = r ∧ i_Rel (k + 4) u' v') v) u := by
  obtain ⟨c, n, d, op, vp, st, sl, sp, us, vw, rfl, rfl, R⟩ := I
  have R' := R
  obtain ⟨hc1, hc6, hn, hd, ho, hU, hV⟩ := R'
  unfold wpX_finish wpY_finish
  dsimp only
  rcases ho with rfl | ⟨rfl, rfl⟩
  · exact br_t rfl (br_t rfl ⟨rfl, cr_mk _ c n d R⟩)
  · refine br_f cr_10 (br_f cr_10 (cr_yView ?_))
    exact ⟨rfl, cr_mk _ c n 0 ⟨hc1, hc6, hn, by omega, Or.inl rfl, hU, cr_V0 (cr_f_in0 _ _ 16)⟩⟩
theorem i_vc_decodeNext {k : Nat} {u : SX} {v : SY} (I : i_Rel k u v) (hk : k + 4 ≤ 2049) : wpX_decodeNext (fun r u' => wpY_decodeNext (fun r' v' => r' = r ∧ i_Rel (k + 4) u' v') v) u := by
  obtain ⟨c, n, d, op, vp, st, sl, sp, us, vw, rfl, rfl, R⟩ := I
  have R' := R
  obtain ⟨hc1, hc6, hn, hd, ho, hU, hV⟩ := R'
  unfold wpX_decodeNext wpY_decodeNext
  dsimp only
  rcases ho with rfl | ⟨rfl, rfl⟩
  · by_cases hf : d < n
    · have hx : nI d < nI n := nI_lt hf (by omega)
      have hb : vp_in (nI d) 6 := vp_in_nI (by omega) (by decide)
      have ed : (nI d).toNatClampNeg = d := nI_clamp (by omega)
      refine br_t rfl (br_t hx ⟨hb, fun a ea m em => ?_⟩)
      refine br_t rfl (br_t hx ⟨hb, fun a2 ea2 => Exists.intro 17 ?_⟩)
      rw [ed] at ea ea2
      rw [nI_1] at em
      subst ea em ea2
      refine cr_yDecL _ d (by omega) _ _ _ _ _ _ _ _ ?_ 16 0 rfl
      exact ⟨rfl, cr_mk _ c n (d + 1) ⟨hc1, hc6, hn, by omega, Or.inl rfl, hU, cr_V1 (cr_f_in0 _ _ 16)⟩⟩
    · have hx : ¬ nI d < nI n := nI_nlt (by omega) (by omega)
      exact br_t rfl (br_f hx (br_t rfl (br_f hx ⟨rfl, cr_mk _ c n d R⟩)))
  · exact br_f cr_10 (br_f cr_10 ⟨rfl, cr_mk _ c n 0 R⟩)
theorem i_vc_rewind {k : Nat} {u : SX} {v : SY} (I : i_Rel k u v) (hk : k + 4 ≤ 2049) : wpX_rewind (fun r u' => wpY_rewind (fun r' v' => r' = r ∧ i_Rel (k + 4) u' v') v) u := by
  obtain ⟨c, n, d, op, vp, st, sl, sp, us, vw, rfl, rfl, R⟩ := I
  have R' := R
  obtain ⟨hc1, hc6, hn, hd, ho, hU, hV⟩ := R'
  unfold wpX_rewind wpY_rewind
  dsimp only
  rcases ho with rfl | ⟨rfl, rfl⟩
  · refine br_t rfl (br_t rfl (cr_yView ?_))
    exact ⟨rfl, cr_mk _ c n 0 ⟨hc1, hc6, hn, by omega, Or.inl rfl, hU, cr_V0 (cr_f_in0 _ _ 16)⟩⟩
  · exact br_f cr_10 (br_f cr_10 ⟨rfl, cr_mk _ c n 0 R⟩)
theorem i_vc_reset {k : Nat} {u : SX} {v : SY} (I : i_Rel k u v) (hk : k + 4 ≤ 2049) : wpX_reset (fun u' => wpY_reset (fun v' => i_Rel (k + 4) u' v') v) u := by
  obtain ⟨c, n, d, op, vp, st, sl, sp, us, vw, rfl, rfl, hc1, hc6, hn, hd, ho, hU, hV⟩ := I
  refine cr_xReset ?_
  unfold wpY_reset
  refine cr_yView ?_
  exact cr_mk _ c 0 0 ⟨hc1, hc6, by omega, by omega, Or.inr ⟨rfl, rfl⟩, cr_U0 (cr_f_in0 _ _ 16), cr_V0 (cr_f_in0 _ _ 16)⟩
theorem i_vc_getDecoded {k : Nat} {u : SX} {v : SY} (I : i_Rel k u v) (hk : k + 4 ≤ 2049) (v1 : Int32) : wpX_getDecoded (fun r => wpY_getDecoded (fun r' => r' = r ∧ i_Rel (k + 4) u v) v v1) u v1 := by
  have J := i_up I
  obtain ⟨c, n, d, op, vp, st, sl, sp, us, vw, rfl, rfl, hc1, hc6, hn, hd, ho, hU, hV⟩ := I
  unfold wpX_getDecoded wpY_getDecoded
  dsimp only
  cases d with
  | zero =>
    refine br_t rfl ?_
    rcases pk_ix v1 (n := 16) (by decide) with h | h | ⟨j, hj, rfl⟩
    · exact br_t h ⟨rfl, J⟩
    · exact br_f (cr_n0 (by decide) h) (br_f (cr_nle 15 16 (by decide) (by decide) h) ⟨rfl, J⟩)
    · refine br_f (nI_pos (by omega)) (br_t (nI_le (b := 15) (by omega) (by decide)) ⟨vp_in_nI hj (by decide), ?_, J⟩)
      rw [nI_clamp (n := j) (by omega)]
      exact (hV.1 rfl).2 j hj
  | succ e =>
    refine br_f (nI_ne0 (by omega) (by omega)) ?_
    rcases pk_ix v1 (n := 16) (by decide) with h | h | ⟨j, hj, rfl⟩
    · exact cr_ip0 (Or.inl h) (br_t rfl (br_t h ⟨rfl, J⟩))
    · exact cr_ip0 (Or.inr h) (br_t rfl (br_f (cr_n0 (by decide) h) (br_f (cr_nle 15 16 (by decide) (by decide) h) ⟨rfl, J⟩)))
    · have ee : (nI (e + 1) - 1) * 16 + nI j = nI (e * 16 + j) := by rw [nI_pred e, cr_o]
      refine cr_ip1 hj (br_f cr_10 ⟨by rw [ee]; exact vp_in_nI (by omega) (by decide), ?_⟩)
      refine br_f (nI_pos (by omega)) (br_t (nI_le (b := 15) (by omega) (by decide)) ⟨vp_in_nI hj (by decide), ?_, J⟩)
      rw [ee, nI_clamp (n := j) (by omega), nI_clamp (n := e * 16 + j) (by omega)]
      exact (hV.2 e rfl).2 j hj
theorem i_vc_decodedPlace {k : Nat} {u : SX} {v : SY} (I : i_Rel k u v) (hk : k + 4 ≤ 2049) : wpX_decodedPlace (fun r => wpY_decodedPlace (fun r' => r' = r ∧ i_Rel (k + 4) u v) v) u := by
  have J := i_up I
  obtain ⟨c, n, d, op, vp, st, sl, sp, us, vw, rfl, rfl, hc1, hc6, hn, hd, ho, hU, hV⟩ := I
  unfold wpX_decodedPlace wpY_decodedPlace
  dsimp only
  cases d with
  | zero => exact br_t rfl ⟨(hV.1 rfl).1, J⟩
  | succ e =>
    refine br_f (nI_ne0 (by omega) (by omega)) ⟨by rw [nI_pred e]; exact vp_in_nI (by omega) (by decide), ?_, J⟩
    rw [nI_pred e, nI_clamp (n := e) (by omega)]
    exact (hV.2 e rfl).1
theorem i_vc_decodedCount {k : Nat} {u : SX} {v : SY} (I : i_Rel k u v) (hk : k + 4 ≤ 2049) : wpX_decodedCount (fun r => wpY_decodedCount (fun r' => r' = r ∧ i_Rel (k + 4) u v) v) u := by
  have J := i_up I
  obtain ⟨c, n, d, op, vp, st, sl, sp, us, vw, rfl, rfl, R⟩ := I
  exact ⟨rfl, J⟩
theorem i_vc_blockCount {k : Nat} {u : SX} {v : SY} (I : i_Rel k u v) (hk : k + 4 ≤ 2049) : wpX_blockCount (fun r => wpY_blockCount (fun r' => r' = r ∧ i_Rel (k + 4) u v) v) u := by
  have J := i_up I
  obtain ⟨c, n, d, op, vp, st, sl, sp, us, vw, rfl, rfl, R⟩ := I
  exact ⟨rfl, J⟩
theorem i_vc_isOpen {k : Nat} {u : SX} {v : SY} (I : i_Rel k u v) (hk : k + 4 ≤ 2049) : wpX_isOpen (fun r => wpY_isOpen (fun r' => r' = r ∧ i_Rel (k + 4) u v) v) u := by
  have J := i_up I
  obtain ⟨c, n, d, op, vp, st, sl, sp, us, vw, rfl, rfl, hc1, hc6, hn, hd, ho, hU, hV⟩ := I
  unfold wpX_isOpen wpY_isOpen
  dsimp only
  rcases ho with rfl | ⟨rfl, rfl⟩
  · exact ⟨rfl, rfl, rfl, J⟩
  · exact ⟨rfl, rfl, rfl, J⟩
theorem i_vc_placeUsed {k : Nat} {u : SX} {v : SY} (I : i_Rel k u v) (hk : k + 4 ≤ 2049) (v1 : Int32) : wpX_placeUsed (fun r => wpY_placeUsed (fun r' => r' = r ∧ i_Rel (k + 4) u v) v v1) u v1 := by
  have J := i_up I
  obtain ⟨c, n, d, op, vp, st, sl, sp, us, vw, rfl, rfl, hc1, hc6, hn, hd, ho, hU, hV⟩ := I
  unfold wpX_placeUsed
  dsimp only
  rcases pk_ix v1 (n := 16) (by decide) with h | h | ⟨p, hp, rfl⟩
  · refine cr_il0 (Or.inl h) (br_t rfl ?_)
    unfold wpY_placeUsed
    exact br_t h ⟨rfl, J⟩
  · refine cr_il0 (Or.inr h) (br_t rfl ?_)
    unfold wpY_placeUsed
    exact br_f (cr_n0 (by decide) h) (br_f (cr_nle 15 16 (by decide) (by decide) h) ⟨rfl, J⟩)
  · refine cr_il1 hp (br_f cr_10 ⟨vp_in_nI hp (by decide), ?_⟩)
    rw [nI_clamp (n := p) (by omega)]
    rcases hU p hp with ⟨u1, uk⟩ | ⟨u0, uk⟩
    · exact br_f (by rw [u1]; exact cr_10) (cr_yPl hp (by omega) (Or.inl ⟨⟨rfl, J⟩, uk⟩))
    · exact br_t u0 (cr_yPl hp (by omega) (Or.inr ⟨⟨rfl, J⟩, uk⟩))
theorem i_vc_capacity {k : Nat} {u : SX} {v : SY} (I : i_Rel k u v) (hk : k + 4 ≤ 2049) : wpX_capacity (fun r => wpY_capacity (fun r' => r' = r ∧ i_Rel (k + 4) u v) v) u := by
  have J := i_up I
  obtain ⟨c, n, d, op, vp, st, sl, sp, us, vw, rfl, rfl, R⟩ := I
  exact ⟨rfl, J⟩
