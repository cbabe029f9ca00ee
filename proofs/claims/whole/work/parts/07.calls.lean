section
variable {s d o : Nat} {st bc cn : Int32} {ops fa fb bst bsk cs ge lc lo sk go la : Nat → Int32}
theorem wd_neg0 (f : Nat → Int32) : ∀ n, (∀ i, i < n → f i = -1) → wd_cnt f n = 0
  | 0, _ => rfl
  | n + 1, h => by
    show wd_cnt f n + (if f n < 0 then 0 else 1) = 0
    rw [wd_neg0 f n (fun i hi => h i (by omega)), h n (by omega), if_pos (by decide)]
theorem wd_ini {post : SY → Prop} (h : ∀ a : Nat → Int32, (∀ q, q < 20 → a q = -1) → post (nI s, st, nI d, cn, nI o, ops, fa, fb, a, lc, go, ge, la)) : ∀ (m i : Nat) (a : Nat → Int32), i + m = 20 → (∀ q, q < i → a q = -1) → wY_init_70 post (nI s) st (nI d) cn (nI o) (m + 1) (nI i) ops fa fb a lc go ge la
  | 0, i, a, hi, ha => br_t (nI_le (a := 20) (by omega) (by omega)) (h a (fun q hq => ha q (by omega)))
  | m + 1, i, a, hi, ha => br_f (nI_ge (b := 20) (by omega) (by decide)) ⟨vp_in_nI (by omega) (by omega), nm_r (e' := upd a i (-1)) (wd_up rfl (by omega) rfl) (nm_r (e' := nI (i + 1)) (nI_1 i) (wd_ini h m (i + 1) (upd a i (-1)) (by omega) (fun q hq => by
      by_cases z : q = i
      · rw [z, pk_us]
      · rw [pk_un z]; exact ha q (by omega))))⟩
theorem wd_brk {post : Int32 → Prop} (h : post (nI (wd_cnt sk 20))) : ∀ (m i : Nat), i + m = 20 → wY_breaks_4 post (nI s) st (nI d) cn (nI o) ops fa fb sk lc go ge la (m + 1) (nI (wd_cnt sk i)) (nI i)
  | 0, i, hi => by
    have : i = 20 := by omega
    subst this
    exact br_t (by decide) h
  | m + 1, i, hi => by
    refine br_f (nI_ge (b := 20) (by omega) (by decide)) ⟨vp_in_nI (by omega) (by omega), ?_⟩
    have ih := wd_brk h m (i + 1) (by omega)
    have e1 : wd_cnt sk (i + 1) = wd_cnt sk i + (if sk i < 0 then 0 else 1) := rfl
    by_cases z : sk i < 0
    · rw [e1, if_pos z] at ih
      exact br_t (by rw [nI_clamp (by omega)]; exact z) (nm_r (e' := nI (i + 1)) (nI_1 i) ih)
    · rw [e1, if_neg z] at ih
      exact br_f (by rw [nI_clamp (by omega)]; exact z) (nm_r (e' := nI (wd_cnt sk i + 1)) (nI_1 _) (nm_r (e' := nI (i + 1)) (nI_1 i) ih))
theorem wd_brks {post : Int32 → Prop} (h : post (nI (wd_cnt sk 20))) : wpY_breaks post (nI s, st, nI d, cn, nI o, ops, fa, fb, sk, lc, go, ge, la) := ⟨20 + 1, wd_brk h 20 0 rfl⟩
end
theorem i_vc0 : wpX_init (fun u => wpY_init (fun v => i_Rel 0 u v)) :=
  ⟨20 + 1, wd_ini (s := 0) (d := 0) (o := 0) (st := 0) (cn := 0) (ops := fun _ => 0) (fa := fun _ => 0) (fb := fun _ => 0) (lc := fun _ => 0) (go := fun _ => 0) (ge := fun _ => 0) (la := fun _ => 0)
    (fun a ha => ⟨0, 0, 0, 0, 0, 0, fun _ => 0, fun _ => 0, fun _ => 0, fun _ => 0, fun _ => 0, fun _ => 0, fun _ => 0, fun _ => 0, fun _ => 0, a, fun _ => 0, fun _ => 0, rfl, rfl,
      ⟨by omega, by omega, by omega, fun z => absurd rfl z, fun z => absurd rfl z, ⟨fun _ _ => rfl, fun _ _ => rfl⟩, fun _ => ⟨0, by omega, rfl⟩, fun i hi => Or.inl ⟨rfl, ha i hi⟩, by rw [wd_neg0 a 20 ha]; rfl, fun _ _ _ => rfl⟩⟩) 20 0 (fun _ => 0) rfl (fun q hq => absurd hq (by omega))⟩
theorem i_vc_emit {k : Nat} {u : SX} {v : SY} (I : i_Rel k u v) (hk : k + 4 ≤ 2048) (v1 : Int32) (v2 : Int32) (v3 : Int32) : wpX_emit (fun r u' => wpY_emit (fun r' v' => r' = r ∧ i_Rel (k + 4) u' v') v v1 v2 v3) u v1 v2 v3 := by
  have I' := i_up I
  obtain ⟨s, d, o, st, bc, cn, ops, fa, fb, bst, bsk, cs, ge, lc, lo, sk, go, la, rfl, rfl, ⟨Fs, Fd, Fo, F1, Fru, Ffr, Fg, Fb, Fc, Fu⟩⟩ := I
  by_cases h0 : v1 < 0
  · exact br_t h0 (br_t h0 ⟨rfl, I'⟩)
  by_cases h1 : v1 ≤ 10
  · by_cases h2 : s < 20
    · have xs : nI s < 20 := nI_lt (b := 20) h2 (by decide)
      have ys : ¬ nI s = 20 := fun z => by
        have := (nI_eq (a := s) (b := 20) (by omega) (by decide)).mp z
        omega
      by_cases h3 : st = 0
      · have hi : vp_in (nI s) 20 := vp_in_nI h2 (by decide)
        refine br_f h0 (br_t h1 (br_t xs (br_t h3 ⟨hi, nm_e ⟨hi, nm_e ⟨hi, nm_e (nm_r (e' := nI (s + 1)) (nI_1 s) ?_)⟩⟩⟩)))
        refine br_f h0 (br_t h1 (br_f ys (br_t h3 ⟨hi, nm_e ⟨hi, nm_e ⟨hi, nm_e (nm_r (e' := nI (s + 1)) (nI_1 s) ⟨nI_pred s, ?_⟩)⟩⟩⟩)))
        exact ⟨s + 1, d, o, st, bc, cn, _, _, _, bst, bsk, cs, ge, lc, lo, sk, go, la, rfl, rfl, ⟨h2, Fd, by omega, F1, fun z => absurd h3 z, Ffr, Fg, Fb, Fc, Fu⟩⟩
      · exact br_f h0 (br_t h1 (br_t xs (br_f h3 (br_f h0 (br_t h1 (br_f ys (br_f h3 ⟨rfl, I'⟩)))))))
    · have : s = 20 := by omega
      subst this
      exact br_f h0 (br_t h1 (br_f (by decide) (br_f h0 (br_t h1 (br_t (by decide) ⟨rfl, I'⟩)))))
  · exact br_f h0 (br_f h1 (br_f h0 (br_f h1 ⟨rfl, I'⟩)))
theorem i_vc_start {k : Nat} {u : SX} {v : SY} (I : i_Rel k u v) (hk : k + 4 ≤ 2048) (v1 : Int32) : wpX_start (fun r u' => wpY_start (fun r' v' => r' = r ∧ i_Rel (k + 4) u' v') v v1) u v1 := by
  have I' := i_up I
  obtain ⟨s, d, o, st, bc, cn, ops, fa, fb, bst, bsk, cs, ge, lc, lo, sk, go, la, rfl, rfl, ⟨Fs, Fd, Fo, F1, Fru, Ffr, Fg, Fb, Fc, Fu⟩⟩ := I
  unfold wpX_start wpY_start
  dsimp only
  rcases wd_case Fs v1 with ⟨p, hp, rfl⟩ | hn
  · refine wd_inT Fs hp (br_f (by decide) (wd_add (f := 0) (by omega) (wd_ynT Fs hp (br_t rfl ⟨0 + 1 + 1 + 1 + 1 + 1, ?_⟩))))
    refine br_f (by decide) ⟨vp_in_nI (n := 0) (by omega) (by decide), nm_r (e' := upd lc (0 * 4) 0) (wd_up rfl (by omega) rfl) (nm_r (e' := 1) (by decide) ?_)⟩
    refine br_f (by decide) ⟨vp_in_nI (n := 1) (by omega) (by decide), nm_r (e' := upd (upd lc (0 * 4) 0) (0 * 4 + 1) 0) (wd_up rfl (by omega) rfl) (nm_r (e' := 2) (by decide) ?_)⟩
    refine br_f (by decide) ⟨vp_in_nI (n := 2) (by omega) (by decide), nm_r (e' := upd (upd (upd lc (0 * 4) 0) (0 * 4 + 1) 0) (0 * 4 + 2) 0) (wd_up rfl (by omega) rfl) (nm_r (e' := 3) (by decide) ?_)⟩
    refine br_f (by decide) ⟨vp_in_nI (n := 3) (by omega) (by decide), nm_r (e' := upd (upd (upd (upd lc (0 * 4) 0) (0 * 4 + 1) 0) (0 * 4 + 2) 0) (0 * 4 + 3) 0) (wd_up rfl (by omega) rfl) (nm_r (e' := 4) (by decide) ?_)⟩
    exact br_t (by decide) ⟨rfl, ⟨s, 1, 0, 1, bc, nI p, ops, fa, fb, bst, bsk, upd cs 0 (nI p), ge, upd (upd (upd (upd lc (0 * 4) 0) (0 * 4 + 1) 0) (0 * 4 + 2) 0) (0 * 4 + 3) 0, lo, sk, go, la, rfl, rfl, ⟨Fs, by omega, by omega, fun _ => by omega, fun _ _ _ => ⟨p, hp, rfl⟩, ⟨fun i h => absurd h (by omega), fun i h => by cases h; exact pk_us⟩, Fg, Fb, Fc, fun b _ h => absurd h (by omega)⟩⟩⟩
  · exact wd_inF hn (br_t rfl (wd_ynF hn (br_f (by decide) ⟨rfl, I'⟩)))
theorem wd_Bset {bst bsk sk : Nat → Int32} {p j : Nat} (h : wd_Bk bst bsk sk) (hj : j ≤ 100) : wd_Bk (upd bst p 1) (upd bsk p (nI j)) (upd sk p (nI j)) := fun q hq => by
  by_cases z : q = p
  · rw [z, pk_us, pk_us, pk_us]; exact Or.inr ⟨rfl, j, hj, rfl, rfl⟩
  · rw [pk_un z, pk_un z, pk_un z]; exact h q hq
theorem wd_Bset' {bst bsk sk : Nat → Int32} {p j : Nat} (h : wd_Bk bst bsk sk) (hb : bst p = 1) (hj : j ≤ 100) : wd_Bk bst (upd bsk p (nI j)) (upd sk p (nI j)) := fun q hq => by
  by_cases z : q = p
  · rw [z, pk_us, pk_us]; exact Or.inr ⟨hb, j, hj, rfl, rfl⟩
  · rw [pk_un z, pk_un z]; exact h q hq
theorem wd_Bclr {bst bsk sk : Nat → Int32} {p : Nat} (h : wd_Bk bst bsk sk) : wd_Bk (upd bst p 0) bsk (upd sk p (-1)) := fun q hq => by
  by_cases z : q = p
  · rw [z, pk_us, pk_us]; exact Or.inl ⟨rfl, rfl⟩
  · rw [pk_un z, pk_un z]; exact h q hq
theorem wd_nb1 : vp_nar .boolean 1 = 1 := by rfl
theorem wd_nb0 : vp_nar .boolean 0 = 0 := by rfl
theorem i_vc_setBreak {k : Nat} {u : SX} {v : SY} (I : i_Rel k u v) (hk : k + 4 ≤ 2048) (v1 : Int32) (v2 : Int32) : wpX_setBreak (fun r u' => wpY_setBreak (fun r' v' => r' = r ∧ i_Rel (k + 4) u' v') v v1 v2) u v1 v2 := by
  have I' := i_up I
  obtain ⟨s, d, o, st, bc, cn, ops, fa, fb, bst, bsk, cs, ge, lc, lo, sk, go, la, rfl, rfl, ⟨Fs, Fd, Fo, F1, Fru, Ffr, Fg, Fb, Fc, Fu⟩⟩ := I
  subst Fc
  unfold wpX_setBreak wpY_setBreak
  dsimp only
  rcases wd_case Fs v1 with ⟨p, hp, rfl⟩ | hn
  · refine wd_inT Fs hp (br_f (by decide) ?_)
    by_cases h0 : v2 < 0
    · exact br_t h0 (wd_ynT Fs hp (br_t rfl (br_t h0 ⟨rfl, I'⟩)))
    by_cases h1 : v2 ≤ 100
    · obtain ⟨j, hj, rfl⟩ := nI_of2 (n := 100) (by decide) h0 h1
      have hpi : vp_in (nI p) 20 := vp_in_nI (by omega) (by omega)
      have cl : (nI p).toNatClampNeg = p := nI_clamp (by omega)
      rcases Fb p (by omega) with ⟨b0, k0⟩ | ⟨b1, i, hi, ei, ki⟩
      · have ec : wd_cnt (upd sk p (nI j)) 20 = wd_cnt sk 20 + 1 := wd_cnt_up (by rw [k0]; decide) h0 20 (by omega)
        exact br_f h0 (br_t h1 ⟨hpi, br_t (by rw [cl]; exact b0) ⟨hpi, nm_r (e' := upd bst p 1) (wd_up rfl (by omega) wd_nb1) (nm_r (e' := nI (wd_cnt sk 20 + 1)) (nI_1 _) ⟨hpi, nm_r (e' := upd bsk p (nI j)) (wd_up rfl (by omega) rfl) (wd_ynT Fs hp (br_t rfl (br_f h0 (br_t h1 ⟨hpi, nm_r (e' := upd sk p (nI j)) (wd_up rfl (by omega) rfl) (wd_brks ⟨congrArg nI ec,
          ⟨s, d, o, st, _, cn, ops, fa, fb, upd bst p 1, upd bsk p (nI j), cs, ge, lc, lo, upd sk p (nI j), go, la, rfl, rfl, ⟨Fs, Fd, by omega, F1, Fru, Ffr, Fg, wd_Bset Fb hj, congrArg nI ec.symm, Fu⟩⟩⟩)⟩))))⟩)⟩⟩)
      · have ec : wd_cnt (upd sk p (nI j)) 20 = wd_cnt sk 20 := wd_cnt_same sk p (nI j) 20 (by rw [ki]; exact nI_pos (by omega)) h0
        exact br_f h0 (br_t h1 ⟨hpi, br_f (by rw [cl, b1]; decide) ⟨hpi, nm_r (e' := upd bsk p (nI j)) (wd_up rfl (by omega) rfl) (wd_ynT Fs hp (br_t rfl (br_f h0 (br_t h1 ⟨hpi, nm_r (e' := upd sk p (nI j)) (wd_up rfl (by omega) rfl) (wd_brks ⟨congrArg nI ec,
          ⟨s, d, o, st, _, cn, ops, fa, fb, bst, upd bsk p (nI j), cs, ge, lc, lo, upd sk p (nI j), go, la, rfl, rfl, ⟨Fs, Fd, by omega, F1, Fru, Ffr, Fg, wd_Bset' Fb b1 hj, congrArg nI ec.symm, Fu⟩⟩⟩)⟩))))⟩⟩)
    · exact br_f h0 (br_f h1 (wd_ynT Fs hp (br_t rfl (br_f h0 (br_f h1 ⟨rfl, I'⟩)))))
  · exact wd_inF hn (br_t rfl (wd_ynF hn (br_f (by decide) ⟨rfl, I'⟩)))
theorem i_vc_clearBreak {k : Nat} {u : SX} {v : SY} (I : i_Rel k u v) (hk : k + 4 ≤ 2048) (v1 : Int32) : wpX_clearBreak (fun r u' => wpY_clearBreak (fun r' v' => r' = r ∧ i_Rel (k + 4) u' v') v v1) u v1 := by
  have I' := i_up I
  obtain ⟨s, d, o, st, bc, cn, ops, fa, fb, bst, bsk, cs, ge, lc, lo, sk, go, la, rfl, rfl, ⟨Fs, Fd, Fo, F1, Fru, Ffr, Fg, Fb, Fc, Fu⟩⟩ := I
  subst Fc
  unfold wpX_clearBreak wpY_clearBreak
  dsimp only
  rcases wd_case Fs v1 with ⟨p, hp, rfl⟩ | hn
  · have hpi : vp_in (nI p) 20 := vp_in_nI (by omega) (by omega)
    have cl : (nI p).toNatClampNeg = p := nI_clamp (by omega)
    rcases Fb p (by omega) with ⟨b0, k0⟩ | ⟨b1, j, hj, ej, kj⟩
    · refine wd_hbF Fs hp b0 (br_t rfl (wd_ynT Fs hp (br_t rfl ⟨hpi, br_f ?_ ⟨rfl, I'⟩⟩)))
      rw [cl, k0]; decide
    · have ec : wd_cnt (upd sk p (-1)) 20 + 1 = wd_cnt sk 20 := wd_cnt_dn (by rw [kj]; exact nI_pos (by omega)) (by decide) 20 (by omega)
      have ep : nI (wd_cnt sk 20) - 1 = nI (wd_cnt (upd sk p (-1)) 20) := by rw [← ec, nI_pred]
      have y0 : 0 ≤ sk (nI p).toNatClampNeg := by rw [cl, kj]; exact nI_pos' (by omega)
      exact wd_hbT Fs hp b1 (br_f (by decide) ⟨hpi, nm_r (e' := upd bst p 0) (wd_up rfl (by omega) wd_nb0) (nm_r (e' := nI (wd_cnt (upd sk p (-1)) 20)) ep (wd_ynT Fs hp (br_t rfl ⟨hpi, br_t y0 ⟨hpi, nm_r (e' := upd sk p (-1)) (wd_up rfl (by omega) rfl) (wd_brks ⟨rfl,
        ⟨s, d, o, st, _, cn, ops, fa, fb, upd bst p 0, bsk, cs, ge, lc, lo, upd sk p (-1), go, la, rfl, rfl, ⟨Fs, Fd, by omega, F1, Fru, Ffr, Fg, wd_Bclr Fb, rfl, Fu⟩⟩⟩)⟩⟩)))⟩)
  · exact wd_hbN hn (br_t rfl (wd_ynF hn (br_f (by decide) ⟨rfl, I'⟩)))
theorem i_vc_setLocal {k : Nat} {u : SX} {v : SY} (I : i_Rel k u v) (hk : k + 4 ≤ 2048) (v1 : Int32) (v2 : Int32) : wpX_setLocal (fun r u' => wpY_setLocal (fun r' v' => r' = r ∧ i_Rel (k + 4) u' v') v v1 v2) u v1 v2 := by
  have I' := i_up I
  obtain ⟨s, d, o, st, bc, cn, ops, fa, fb, bst, bsk, cs, ge, lc, lo, sk, go, la, rfl, rfl, ⟨Fs, Fd, Fo, F1, Fru, Ffr, Fg, Fb, Fc, Fu⟩⟩ := I
  cases d with
  | zero => exact br_t rfl (br_t rfl ⟨rfl, I'⟩)
  | succ e =>
    have hne : ¬ nI (e + 1) = 0 := nI_ne0 (by omega) (by omega)
    refine br_f hne ?_
    by_cases h0 : v1 < 0
    · exact br_t h0 (br_t rfl (br_f hne (br_t h0 ⟨rfl, I'⟩)))
    · obtain ⟨j, hj, rfl⟩ := nI_of h0
      by_cases h4 : j < 4
      · have q : (nI (e + 1) - 1) * 4 + nI j = nI (e * 4 + j) := by rw [wd_base, nI_add]
        have i0 : vp_in ((nI (e + 1) - 1) * 4 + nI j) 24 := pk_in (e * 4 + j) 24 (by omega) q
        exact br_f h0 (br_f (nI_ge (b := 4) h4 (by decide)) (br_f (by decide) ⟨i0, nm_e (br_f hne (br_f h0 (br_t (nI_le (b := 3) (by omega) (by decide)) ⟨i0, nm_e ⟨rfl,
          ⟨s, e + 1, o, st, bc, cn, ops, fa, fb, bst, bsk, cs, ge, _, lo, sk, go, la, rfl, rfl, ⟨Fs, Fd, by omega, F1, Fru, Ffr, Fg, Fb, Fc, Fu⟩⟩⟩⟩)))⟩))
      · exact br_f h0 (br_t (nI_le (a := 4) (by omega) hj) (br_t rfl (br_f hne (br_f h0 (br_f (nI_ge (a := 3) (by omega) hj) ⟨rfl, I'⟩)))))
