theorem i_vc_state {k : Nat} {u : SX} {v : SY} (I : i_Rel k u v) (hk : k + 4 ≤ 2048) : wpX_state (fun r => wpY_state (fun r' => r' = r ∧ i_Rel (k + 4) u v) v) u := by
  have I' := i_up I
  obtain ⟨s, d, o, st, bc, cn, ops, fa, fb, bst, bsk, cs, ge, lc, lo, sk, go, la, rfl, rfl, ⟨Fs, Fd, Fo, F1, Fru, Ffr, Fg, Fb, Fc, Fu⟩⟩ := I
  exact ⟨rfl, I'⟩
theorem i_vc_depth {k : Nat} {u : SX} {v : SY} (I : i_Rel k u v) (hk : k + 4 ≤ 2048) : wpX_depth (fun r => wpY_depth (fun r' => r' = r ∧ i_Rel (k + 4) u v) v) u := by
  have I' := i_up I
  obtain ⟨s, d, o, st, bc, cn, ops, fa, fb, bst, bsk, cs, ge, lc, lo, sk, go, la, rfl, rfl, ⟨Fs, Fd, Fo, F1, Fru, Ffr, Fg, Fb, Fc, Fu⟩⟩ := I
  exact ⟨rfl, I'⟩
theorem i_vc_outputs {k : Nat} {u : SX} {v : SY} (I : i_Rel k u v) (hk : k + 4 ≤ 2048) : wpX_outputs (fun r => wpY_outputs (fun r' => r' = r ∧ i_Rel (k + 4) u v) v) u := by
  have I' := i_up I
  obtain ⟨s, d, o, st, bc, cn, ops, fa, fb, bst, bsk, cs, ge, lc, lo, sk, go, la, rfl, rfl, ⟨Fs, Fd, Fo, F1, Fru, Ffr, Fg, Fb, Fc, Fu⟩⟩ := I
  exact ⟨rfl, I'⟩
theorem i_vc_counter {k : Nat} {u : SX} {v : SY} (I : i_Rel k u v) (hk : k + 4 ≤ 2048) (v1 : Int32) : wpX_counter (fun r => wpY_counter (fun r' => r' = r ∧ i_Rel (k + 4) u v) v v1) u v1 := by
  have I' := i_up I
  obtain ⟨s, d, o, st, bc, cn, ops, fa, fb, bst, bsk, cs, ge, lc, lo, sk, go, la, rfl, rfl, ⟨Fs, Fd, Fo, F1, Fru, Ffr, Fg, Fb, Fc, Fu⟩⟩ := I
  unfold wpX_counter
  dsimp only
  by_cases h0 : v1 < 0
  · exact br_t h0 (br_t rfl (br_t h0 ⟨rfl, I'⟩))
  · obtain ⟨j, hj, rfl⟩ := nI_of h0
    by_cases hd : j < d
    · obtain ⟨e, rfl⟩ : ∃ e, d = e + 1 := ⟨d - 1, by omega⟩
      have q : nI (e + 1) - 1 - nI j = nI (e - j) := by rw [nI_pred, pk_sub (by omega)]
      have i0 : vp_in (nI (e + 1) - 1 - nI j) 6 := pk_in (e - j) 6 (by omega) q
      have cl : (nI (e + 1) - 1 - nI j).toNatClampNeg = e - j := by rw [q, nI_clamp (by omega)]
      refine br_f h0 (br_f (nI_ge hd (by omega)) (br_f (by decide) ⟨i0, br_f h0 (br_t (nI_lt hd (by omega)) ?_)⟩))
      by_cases z : j = 0
      · subst z
        refine br_t rfl ⟨?_, I'⟩
        rw [cl]; exact (Ffr.2 e rfl).symm
      · refine br_f (nI_ne0 (by omega) hj) ⟨i0, ?_, I'⟩
        rw [cl]; exact (Ffr.1 (e - j) (by omega)).symm
    · exact br_f h0 (br_t (nI_le (by omega) hj) (br_t rfl (br_f h0 (br_f (nI_nlt (by omega) hj) ⟨rfl, I'⟩))))
theorem i_vc_local {k : Nat} {u : SX} {v : SY} (I : i_Rel k u v) (hk : k + 4 ≤ 2048) (v1 : Int32) (v2 : Int32) : wpX_local (fun r => wpY_local (fun r' => r' = r ∧ i_Rel (k + 4) u v) v v1 v2) u v1 v2 := by
  have I' := i_up I
  obtain ⟨s, d, o, st, bc, cn, ops, fa, fb, bst, bsk, cs, ge, lc, lo, sk, go, la, rfl, rfl, ⟨Fs, Fd, Fo, F1, Fru, Ffr, Fg, Fb, Fc, Fu⟩⟩ := I
  unfold wpX_local
  dsimp only
  by_cases h0 : v1 < 0
  · exact br_t h0 (br_t rfl (br_t h0 ⟨rfl, I'⟩))
  · obtain ⟨j, hj, rfl⟩ := nI_of h0
    by_cases hd : j < d
    · obtain ⟨e, rfl⟩ : ∃ e, d = e + 1 := ⟨d - 1, by omega⟩
      have hdl : ¬ nI (e + 1) ≤ nI j := nI_ge hd (by omega)
      refine br_f h0 (br_f hdl (br_f (by decide) ?_))
      by_cases h1 : v2 < 0
      · exact br_t h1 (br_t rfl (br_f h0 (br_f hdl (br_t h1 ⟨rfl, I'⟩))))
      · obtain ⟨i, hi, rfl⟩ := nI_of h1
        by_cases h4 : i < 4
        · have q : (nI (e + 1) - 1 - nI j) * 4 + nI i = nI ((e - j) * 4 + i) := by rw [nI_pred, pk_sub (by omega), wd_mul4, nI_add]
          have i0 : vp_in ((nI (e + 1) - 1 - nI j) * 4 + nI i) 24 := pk_in ((e - j) * 4 + i) 24 (by omega) q
          exact br_f h1 (br_f (nI_ge (b := 4) h4 (by decide)) (br_f (by decide) ⟨i0, br_f h0 (br_f hdl (br_f h1 (br_t (nI_le (b := 3) (by omega) (by decide)) ⟨i0, rfl, I'⟩)))⟩))
        · exact br_f h1 (br_t (nI_le (a := 4) (by omega) hi) (br_t rfl (br_f h0 (br_f hdl (br_f h1 (br_f (nI_ge (a := 3) (by omega) hi) ⟨rfl, I'⟩))))))
    · have hdl : nI d ≤ nI j := nI_le (by omega) hj
      exact br_f h0 (br_t hdl (br_t rfl (br_f h0 (br_t hdl ⟨rfl, I'⟩))))
theorem i_vc_output {k : Nat} {u : SX} {v : SY} (I : i_Rel k u v) (hk : k + 4 ≤ 2048) (v1 : Int32) : wpX_output (fun r => wpY_output (fun r' => r' = r ∧ i_Rel (k + 4) u v) v v1) u v1 := by
  have I' := i_up I
  obtain ⟨s, d, o, st, bc, cn, ops, fa, fb, bst, bsk, cs, ge, lc, lo, sk, go, la, rfl, rfl, ⟨Fs, Fd, Fo, F1, Fru, Ffr, Fg, Fb, Fc, Fu⟩⟩ := I
  by_cases h0 : v1 < 0
  · exact br_t h0 (br_t h0 ⟨rfl, I'⟩)
  · obtain ⟨j, hj, rfl⟩ := nI_of h0
    by_cases h8 : j < 8
    · have x8 : ¬ (8 : Int32) ≤ nI j := nI_ge (b := 8) h8 (by decide)
      have y8 : ¬ (7 : Int32) < nI j := nI_nlt (a := 7) (by omega) (by decide)
      by_cases ho : j < o
      · have hol : nI j < nI o := nI_lt ho (by omega)
        have q : (nI o - 1 - nI j) &&& 7 = nI ((o - 1 - j) % 8) := by
          rw [show nI o - 1 = nI (o - 1) from pk_sub (b := 1) (by omega), pk_sub (by omega), wd_and7 (by omega)]
        have i0 : vp_in ((nI o - 1 - nI j) &&& 7) 8 := pk_in ((o - 1 - j) % 8) 8 (by omega) q
        refine br_f h0 (br_f x8 (br_t hol ⟨i0, br_f h0 (br_f y8 (br_t hol ⟨vp_in_nI h8 (by decide), ?_, I'⟩))⟩))
        rw [q, nI_clamp (by omega), nI_clamp (by omega)]
        exact (Fu j h8 ho).symm
      · have hol : ¬ nI j < nI o := nI_nlt (by omega) hj
        exact br_f h0 (br_f x8 (br_f hol (br_f h0 (br_f y8 (br_f hol ⟨rfl, I'⟩)))))
    · exact br_f h0 (br_t (nI_le (a := 8) (by omega) hj) (br_f h0 (br_t (nI_lt (a := 7) (by omega) hj) ⟨rfl, I'⟩)))
theorem i_vc_skip {k : Nat} {u : SX} {v : SY} (I : i_Rel k u v) (hk : k + 4 ≤ 2048) (v1 : Int32) : wpX_skip (fun r => wpY_skip (fun r' => r' = r ∧ i_Rel (k + 4) u v) v v1) u v1 := by
  have I' := i_up I
  obtain ⟨s, d, o, st, bc, cn, ops, fa, fb, bst, bsk, cs, ge, lc, lo, sk, go, la, rfl, rfl, ⟨Fs, Fd, Fo, F1, Fru, Ffr, Fg, Fb, Fc, Fu⟩⟩ := I
  unfold wpX_skip wpY_skip
  dsimp only
  rcases wd_case Fs v1 with ⟨p, hp, rfl⟩ | hn
  · have hpi : vp_in (nI p) 20 := vp_in_nI (by omega) (by omega)
    have cl : (nI p).toNatClampNeg = p := nI_clamp (by omega)
    rcases Fb p (by omega) with ⟨b0, k0⟩ | ⟨b1, j, hj, ej, kj⟩
    · refine wd_hbF Fs hp b0 (br_t rfl (wd_ynT Fs hp (br_t rfl ⟨hpi, br_f ?_ ⟨rfl, I'⟩⟩)))
      rw [cl, k0]; decide
    · refine wd_hbT Fs hp b1 (br_f (by decide) ⟨hpi, wd_ynT Fs hp (br_t rfl ⟨hpi, br_t ?_ ⟨hpi, ?_, I'⟩⟩)⟩)
      · rw [cl, kj]; exact nI_pos' (by omega)
      · rw [cl, kj, ej]
  · exact wd_hbN hn (br_t rfl (wd_ynF hn (br_f (by decide) ⟨rfl, I'⟩)))
