section
variable {s d o : Nat} {st bc cn : Int32} {ops fa fb bst bsk cs ge lc lo sk go la : Nat → Int32}
-- CALL
theorem wd_s8 {B e p : Nat} (hs : s ≤ 20) (hp : p < s) (he : e < 6) (ho : o ≤ B) (h0 : st ≠ 0) (hf : ∀ i, i < e → cs i = go i) (hq : cs e = nI p) (hg : wd_Ge ge) (hb : wd_Bk bst bsk sk) (hc : bc = nI (wd_cnt sk 20)) (hu : wd_Ou o lo la) (hw : ops (nI p).toNatClampNeg = 8) : wd_B (B) (fun post => wpX_carryOutNext post (nI s, bc, nI (e + 1), nI o, st, ops, fa, fb, bst, bsk, cs, ge, lc, lo)) (fun post => wpY_carryOut post (nI s, st, nI (e + 1), nI p, nI o, ops, fa, fb, sk, lc, go, ge, la)) := by
  have hpi : vp_in (nI p) 20 := vp_in_nI (by omega) (by omega)
  have hi : vp_in (nI (e + 1) - 1) 6 := by rw [nI_pred]; exact vp_in_nI he (by omega)
  have hr : cs (nI (e + 1) - 1).toNatClampNeg = nI p := (wd_rd (nI_pred e) (by omega)).trans hq
  have hA := wd_i3 he (fa (nI p).toNatClampNeg)
  by_cases h5 : e = 5
  · subst h5
    refine ⟨(nI s, bc, nI (5 + 1), nI o, 6, ops, fa, fb, bst, bsk, cs, ge, lc, lo), (nI s, 6, nI (5 + 1), nI p, nI o, ops, fa, fb, sk, lc, go, ge, la), ⟨s, 6, o, 6, bc, nI p, ops, fa, fb, bst, bsk, cs, ge, lc, lo, sk, go, la, rfl, rfl, ⟨hs, by omega, ho, fun _ => by omega, fun _ _ z => absurd rfl z, ⟨fun i h => hf i (by omega), fun i h => by cases h; exact hq⟩, hg, hb, hc, hu⟩, by decide⟩, fun post h => ?_, fun post h => ?_⟩
    · exact ⟨hi, nm_r (e' := nI p) hr ⟨hpi, nm_r (e' := 8) hw (br_t rfl <| br_f (by decide) h)⟩⟩
    · exact ⟨hpi, nm_r (e' := 8) hw ⟨hpi, nm_e ⟨hpi, nm_e (nm_e (nm_e (nm_e (nm_e (br_f (by decide) <| br_f (by decide) <| br_f (by decide) <| br_f (by decide) <| br_f (by decide) <| br_f (by decide) <| br_f (by decide) <| br_f (by decide) <| br_t rfl <| br_t (by decide) h)))))⟩⟩⟩
  · have hlt : nI (e + 1) < 6 := nI_lt (b := 6) (by omega) (by decide)
    have hne : ¬ nI (e + 1) = 6 := fun z => by
      have := (nI_eq (a := e + 1) (b := 6) (by omega) (by decide)).mp z
      omega
    have q4 : (nI (e + 1) - 1) * 4 + 4 = nI ((e + 1) * 4) := by rw [wd_base]; exact (nI_add (e * 4) 4).trans (congrArg nI (by omega))
    have q5 : (nI (e + 1) - 1) * 4 + 5 = nI ((e + 1) * 4 + 1) := by rw [wd_base]; exact (nI_add (e * 4) 5).trans (congrArg nI (by omega))
    have q6 : (nI (e + 1) - 1) * 4 + 6 = nI ((e + 1) * 4 + 2) := by rw [wd_base]; exact (nI_add (e * 4) 6).trans (congrArg nI (by omega))
    have q7 : (nI (e + 1) - 1) * 4 + 7 = nI ((e + 1) * 4 + 3) := by rw [wd_base]; exact (nI_add (e * 4) 7).trans (congrArg nI (by omega))
    have hg' : wd_Ge (upd ge (nI (e + 1) - 1).toNatClampNeg (fa (nI p).toNatClampNeg &&& 3)) := fun i => by
      by_cases z : i = (nI (e + 1) - 1).toNatClampNeg
      · exact ⟨wd_m3 (fa (nI p).toNatClampNeg), wd_m3lt _, by rw [z, pk_us, wd_and3]⟩
      · rw [pk_un z]; exact hg i
    have hf' : ∀ i, i < e + 1 → upd (upd cs e (nI p + 1)) (e + 1) (fb (nI p).toNatClampNeg) i = upd go e (nI p + 1) i := fun i hi => by
      rw [pk_un (by omega)]
      by_cases z : i = e
      · rw [z, pk_us, pk_us]
      · rw [pk_un z, pk_un z]; exact hf i (by omega)
    refine wd_thru (wd_go (e := e + 1) (ops := ops) (fa := fa) (fb := fb) (cn := nI p)
      (lc := upd (upd (upd (upd lc ((e + 1) * 4) (lc ((nI (e + 1) - 1) * 4 + (fa (nI p).toNatClampNeg &&& 3)).toNatClampNeg)) ((e + 1) * 4 + 1) 0) ((e + 1) * 4 + 2) 0) ((e + 1) * 4 + 3) 0) hs (by omega) ho h0 hf' hg' hb hc hu (fb (nI p).toNatClampNeg)) (fun post h => ?_) (fun post h => ?_)
    · exact ⟨hi, nm_r (e' := nI p) hr ⟨hpi, nm_r (e' := 8) hw (br_t rfl <| br_t hlt <| nm_e ⟨hpi, nm_e ⟨hi, nm_r (e' := upd cs e (nI p + 1)) (wd_up (nI_pred e) (by omega) rfl) ⟨hi, nm_e ⟨hpi, nm_e ⟨hA, wd_add (by omega) h⟩⟩⟩⟩⟩)⟩⟩
    · exact ⟨hpi, nm_r (e' := 8) hw ⟨hpi, nm_e ⟨hpi, nm_e (nm_e (nm_e (nm_e (nm_e (br_f (by decide) <| br_f (by decide) <| br_f (by decide) <| br_f (by decide) <| br_f (by decide) <| br_f (by decide) <| br_f (by decide) <| br_f (by decide) <| br_t rfl <| br_f hne ⟨hi, nm_r (e' := upd go e (nI p + 1)) (wd_up (nI_pred e) (by omega) rfl) ⟨hi, nm_e ⟨hA, pk_in ((e + 1) * 4) 24 (by omega) q4, nm_r (wd_up q4 (by omega) rfl) ⟨pk_in ((e + 1) * 4 + 1) 24 (by omega) q5, nm_r (wd_up q5 (by omega) rfl) ⟨pk_in ((e + 1) * 4 + 2) 24 (by omega) q6, nm_r (wd_up q6 (by omega) rfl) ⟨pk_in ((e + 1) * 4 + 3) 24 (by omega) q7, nm_r (wd_up q7 (by omega) rfl) (nm_r (nI_1 (e + 1)) h)⟩⟩⟩⟩⟩⟩)))))⟩⟩⟩
-- RETURN
theorem wd_s9 {B e p : Nat} (hs : s ≤ 20) (hp : p < s) (he : e < 6) (ho : o ≤ B) (h0 : st ≠ 0) (hf : ∀ i, i < e → cs i = go i) (hq : cs e = nI p) (hg : wd_Ge ge) (hb : wd_Bk bst bsk sk) (hc : bc = nI (wd_cnt sk 20)) (hu : wd_Ou o lo la) (hw : ops (nI p).toNatClampNeg = 9) : wd_B (B) (fun post => wpX_carryOutNext post (nI s, bc, nI (e + 1), nI o, st, ops, fa, fb, bst, bsk, cs, ge, lc, lo)) (fun post => wpY_carryOut post (nI s, st, nI (e + 1), nI p, nI o, ops, fa, fb, sk, lc, go, ge, la)) := by
  have hpi : vp_in (nI p) 20 := vp_in_nI (by omega) (by omega)
  have hi : vp_in (nI (e + 1) - 1) 6 := by rw [nI_pred]; exact vp_in_nI he (by omega)
  have hr : cs (nI (e + 1) - 1).toNatClampNeg = nI p := (wd_rd (nI_pred e) (by omega)).trans hq
  cases e with
  | zero =>
    refine ⟨(nI s, bc, nI (0 + 1), nI o, 5, ops, fa, fb, bst, bsk, cs, ge, lc, lo), (nI s, 5, nI (0 + 1), nI p, nI o, ops, fa, fb, sk, lc, go, ge, la), ⟨s, 1, o, 5, bc, nI p, ops, fa, fb, bst, bsk, cs, ge, lc, lo, sk, go, la, rfl, rfl, ⟨hs, by omega, ho, fun _ => by omega, fun _ z _ => absurd rfl z, ⟨fun i h => hf i (by omega), fun i h => by cases h; exact hq⟩, hg, hb, hc, hu⟩, by decide⟩, fun post h => ?_, fun post h => ?_⟩
    · exact ⟨hi, nm_r (e' := nI p) hr ⟨hpi, nm_r (e' := 9) hw (br_f (by decide) <| br_t rfl <| br_t (by decide) h)⟩⟩
    · exact ⟨hpi, nm_r (e' := 9) hw ⟨hpi, nm_e ⟨hpi, nm_e (nm_e (nm_e (nm_e (nm_e (br_f (by decide) <| br_f (by decide) <| br_f (by decide) <| br_f (by decide) <| br_f (by decide) <| br_f (by decide) <| br_f (by decide) <| br_f (by decide) <| br_f (by decide) <| br_t rfl <| br_t (by decide) h)))))⟩⟩⟩
  | succ f =>
    have hne : ¬ nI (f + 1 + 1) = 1 := fun z => by
      have := (nI_eq (a := f + 1 + 1) (b := 1) (by omega) (by decide)).mp z
      omega
    obtain ⟨j, hj, ej⟩ := hg f
    have hX0 : nI f * 4 + ge (nI f).toNatClampNeg = nI (f * 4 + j) := by rw [nI_clamp (by omega), ej, wd_mul4, nI_add]
    have hY0 : (nI (f + 1 + 1) - 1) * 4 - 4 + ge (nI (f + 1) - 1).toNatClampNeg = nI (f * 4 + j) := by
      rw [nI_pred f, nI_clamp (by omega), ej, wd_base, show nI ((f + 1) * 4) - 4 = nI (f * 4) from (pk_sub (a := (f + 1) * 4) (b := 4) (by omega)).trans (congrArg nI (by omega)), nI_add]
    have i0 : vp_in ((nI (f + 1 + 1) - 1) * 4) 24 := by rw [wd_base]; exact vp_in_nI (by omega) (by omega)
    have i1 : vp_in (nI f) 6 := vp_in_nI (by omega) (by omega)
    have i2 : vp_in (nI (f + 1) - 1) 6 := by rw [nI_pred]; exact i1
    have hgo : go (nI (f + 1) - 1).toNatClampNeg = cs (nI f).toNatClampNeg := by rw [nI_pred, nI_clamp (by omega)]; exact (hf f (by omega)).symm
    refine wd_thru (wd_go (e := f) (ops := ops) (fa := fa) (fb := fb) (cn := nI p)
      (lc := upd lc (f * 4 + j) (lc ((nI (f + 1 + 1) - 1) * 4).toNatClampNeg)) hs (by omega) ho h0 (fun i hi => hf i (by omega)) hg hb hc hu (cs (nI f).toNatClampNeg)) (fun post h => ?_) (fun post h => ?_)
    · exact ⟨hi, nm_r (e' := nI p) hr ⟨hpi, nm_r (e' := 9) hw (br_f (by decide) <| br_t rfl <| br_f hne ⟨i0, nm_e (nm_r (e' := nI (f + 1)) (nI_pred (f + 1)) (nm_r (e' := nI f) (nI_pred f) ⟨i1, pk_in (f * 4 + j) 24 (by omega) hX0, nm_r (wd_up hX0 (by omega) rfl) ⟨i1, h⟩⟩))⟩)⟩⟩
    · exact ⟨hpi, nm_r (e' := 9) hw ⟨hpi, nm_e ⟨hpi, nm_e (nm_e (nm_e (nm_e (nm_e (br_f (by decide) <| br_f (by decide) <| br_f (by decide) <| br_f (by decide) <| br_f (by decide) <| br_f (by decide) <| br_f (by decide) <| br_f (by decide) <| br_f (by decide) <| br_t rfl <| br_f hne (nm_r (e' := nI (f + 1)) (nI_pred (f + 1)) ⟨i2, i0, pk_in (f * 4 + j) 24 (by omega) hY0, nm_r (wd_up hY0 (by omega) rfl) ⟨i2, nm_r hgo h⟩⟩))))))⟩⟩⟩
-- OUT
def wd_shf : Nat → (Nat → Int32) → Nat → Int32
  | 0, a => a
  | i + 1, a => wd_shf i (upd a (i + 1) (a i))
theorem wd_shf_hi : ∀ (i : Nat) (a : Nat → Int32) (b : Nat), i < b → wd_shf i a b = a b
  | 0, _, _, _ => rfl
  | i + 1, a, b, h => (wd_shf_hi i _ b (by omega)).trans (pk_un (by omega))
theorem wd_shf_0 : ∀ (i : Nat) (a : Nat → Int32), wd_shf i a 0 = a 0
  | 0, _ => rfl
  | i + 1, a => (wd_shf_0 i _).trans (pk_un (by omega))
theorem wd_shf_lo : ∀ (i : Nat) (a : Nat → Int32) (b : Nat), b < i → wd_shf i a (b + 1) = a b
  | 0, _, _, h => absurd h (by omega)
  | i + 1, a, b, h => by
    show wd_shf i (upd a (i + 1) (a i)) (b + 1) = a b
    by_cases z : b = i
    · rw [z, wd_shf_hi i _ (i + 1) (by omega), pk_us]
    · rw [wd_shf_lo i _ b (by omega), pk_un (by omega)]
theorem wd_outL {post : SY → Prop} {x : Int32} : ∀ (i : Nat) (a : Nat → Int32), i ≤ 7 → post (nI s, st, nI d, cn, nI (o + 1), ops, fa, fb, sk, lc, go, ge, upd (wd_shf i a) 0 x) → wY_out_3 post x (nI s) st (nI d) cn (nI o) (i + 1) (nI i) ops fa fb sk lc go ge a
  | 0, a, _, h => br_t (by decide) (nm_e (nm_r (nI_1 o) h))
  | i + 1, a, hi, h => by
    have i1 : vp_in (nI (i + 1) - 1) 8 := by rw [nI_pred]; exact vp_in_nI (by omega) (by omega)
    exact br_f (nI_nle (by omega) (by omega)) ⟨i1, vp_in_nI (by omega) (by omega), nm_r (wd_up rfl (by omega) (wd_rd (nI_pred i) (by omega))) (nm_r (pk_m1 i) (wd_outL i _ (by omega) h))⟩
theorem wd_ouS {x : Int32} (h : wd_Ou o lo la) : wd_Ou (o + 1) (upd lo (o % 8) x) (upd (wd_shf 7 la) 0 x) := by
  intro b hb ho
  cases b with
  | zero => rw [show (o + 1 - 1 - 0) % 8 = o % 8 from by omega, pk_us, pk_us]
  | succ c =>
    rw [pk_un (show (o + 1 - 1 - (c + 1)) % 8 ≠ o % 8 by omega), pk_un (by omega), wd_shf_lo 7 la c (by omega), show o + 1 - 1 - (c + 1) = o - 1 - c from by omega]
    exact h c (by omega) (by omega)
theorem wd_s10 {B e p : Nat} (hs : s ≤ 20) (hp : p < s) (he : e < 6) (ho : o ≤ B) (h0 : st ≠ 0) (hf : ∀ i, i < e → cs i = go i) (hq : cs e = nI p) (hg : wd_Ge ge) (hb : wd_Bk bst bsk sk) (hc : bc = nI (wd_cnt sk 20)) (hu : wd_Ou o lo la) (hB31 : B < 2 ^ 30) {w : Int32} (hw : ops (nI p).toNatClampNeg = w) (w0 : ¬ w = 0) (w1 : ¬ w = 1) (w2 : ¬ w = 2) (w3 : ¬ w = 3) (w4 : ¬ w = 4) (w5 : ¬ w = 5) (w6 : ¬ w = 6) (w7 : ¬ w = 7) (w8 : ¬ w = 8) (w9 : ¬ w = 9) : wd_B (B + 1) (fun post => wpX_carryOutNext post (nI s, bc, nI (e + 1), nI o, st, ops, fa, fb, bst, bsk, cs, ge, lc, lo)) (fun post => wpY_carryOut post (nI s, st, nI (e + 1), nI p, nI o, ops, fa, fb, sk, lc, go, ge, la)) := by
  have hpi : vp_in (nI p) 20 := vp_in_nI (by omega) (by omega)
  have hi : vp_in (nI (e + 1) - 1) 6 := by rw [nI_pred]; exact vp_in_nI he (by omega)
  have hr : cs (nI (e + 1) - 1).toNatClampNeg = nI p := (wd_rd (nI_pred e) (by omega)).trans hq
  have hA := wd_i3 he (fa (nI p).toNatClampNeg)
  have hB := wd_i3 he (fb (nI p).toNatClampNeg)
  have hm : vp_in (nI o &&& 7) 8 := pk_in (o % 8) 8 (by omega) (wd_and7 (by omega))
  refine wd_thru (wd_go (e := e) (ops := ops) (fa := fa) (fb := fb) (cn := nI p) (lc := lc) hs he (Nat.succ_le_succ ho) h0 hf hg hb hc (wd_ouS hu (x := lc ((nI (e + 1) - 1) * 4 + (fa (nI p).toNatClampNeg &&& 3)).toNatClampNeg)) (nI p + 1)) (fun post h => ?_) (fun post h => ?_)
  · by_cases hn : w < 0
    · exact ⟨hi, nm_r (e' := nI p) hr ⟨hpi, nm_r (e' := w) hw (br_f w8 <| br_f w9 <| br_f w5 <| br_f w6 <| br_f w7 <| nm_e ⟨hpi, nm_e ⟨hpi, hB, nm_e ⟨hpi, nm_r (e' := w) hw (br_t hn ⟨hA, hm, nm_r (wd_up (wd_and7 (by omega)) (by omega) rfl) (nm_r (nI_1 o) h)⟩)⟩⟩⟩)⟩⟩
    · have h4 : (4 : Int32) < w := by
        obtain ⟨j, hj, rfl⟩ := nI_of hn
        by_cases z : 4 < j
        · exact nI_lt (a := 4) z hj
        · exfalso
          have : j = 0 ∨ j = 1 ∨ j = 2 ∨ j = 3 ∨ j = 4 := by omega
          rcases this with rfl | rfl | rfl | rfl | rfl
          · exact w0 rfl
          · exact w1 rfl
          · exact w2 rfl
          · exact w3 rfl
          · exact w4 rfl
      exact ⟨hi, nm_r (e' := nI p) hr ⟨hpi, nm_r (e' := w) hw (br_f w8 <| br_f w9 <| br_f w5 <| br_f w6 <| br_f w7 <| nm_e ⟨hpi, nm_e ⟨hpi, hB, nm_e ⟨hpi, nm_r (e' := w) hw (br_f hn <| br_t h4 ⟨hA, hm, nm_r (wd_up (wd_and7 (by omega)) (by omega) rfl) (nm_r (nI_1 o) h)⟩)⟩⟩⟩)⟩⟩
  · exact ⟨hpi, nm_r (e' := w) hw ⟨hpi, nm_e ⟨hpi, nm_e (nm_e (nm_e (nm_e (nm_e (br_f w0 <| br_f w1 <| br_f w2 <| br_f w3 <| br_f w4 <| br_f w5 <| br_f w6 <| br_f w7 <| br_f w8 <| br_f w9 ⟨hA, 7 + 1, wd_outL 7 la (by omega) h⟩)))))⟩⟩⟩
-- a step
theorem wd_Sm {B C : Nat} (hBC : B ≤ C) {u : SX} {v : SY} (h : wd_S B u v) : wd_S C u v := by
  obtain ⟨s, d, o, st, bc, cn, ops, fa, fb, bst, bsk, cs, ge, lc, lo, sk, go, la, e1, e2, F, n⟩ := h
  exact ⟨s, d, o, st, bc, cn, ops, fa, fb, bst, bsk, cs, ge, lc, lo, sk, go, la, e1, e2, wd_Fm hBC F, n⟩
theorem wd_Bm {B C : Nat} (hBC : B ≤ C) {PX : (SX → Prop) → Prop} {PY : (SY → Prop) → Prop} (h : wd_B B PX PY) : wd_B C PX PY := by
  obtain ⟨u, v, R, a, b⟩ := h
  exact ⟨u, v, wd_Sm hBC R, a, b⟩
theorem wd_step {B e p : Nat} (hs : s ≤ 20) (hp : p < s) (he : e < 6) (ho : o ≤ B) (h0 : st ≠ 0) (hf : ∀ i, i < e → cs i = go i) (hq : cs e = nI p) (hg : wd_Ge ge) (hb : wd_Bk bst bsk sk) (hc : bc = nI (wd_cnt sk 20)) (hu : wd_Ou o lo la) (hB31 : B < 2 ^ 30) : wd_B (B + 1) (fun post => wpX_carryOutNext post (nI s, bc, nI (e + 1), nI o, st, ops, fa, fb, bst, bsk, cs, ge, lc, lo)) (fun post => wpY_carryOut post (nI s, st, nI (e + 1), nI p, nI o, ops, fa, fb, sk, lc, go, ge, la)) := by
  by_cases w0 : ops (nI p).toNatClampNeg = 0
  · exact wd_Bm (Nat.le_succ B) (wd_s0 hs hp he ho h0 hf hq hg hb hc hu w0)
  by_cases w1 : ops (nI p).toNatClampNeg = 1
  · exact wd_Bm (Nat.le_succ B) (wd_s1 hs hp he ho h0 hf hq hg hb hc hu w1)
  by_cases w2 : ops (nI p).toNatClampNeg = 2
  · exact wd_Bm (Nat.le_succ B) (wd_s2 hs hp he ho h0 hf hq hg hb hc hu w2)
  by_cases w3 : ops (nI p).toNatClampNeg = 3
  · exact wd_Bm (Nat.le_succ B) (wd_s3 hs hp he ho h0 hf hq hg hb hc hu w3)
  by_cases w4 : ops (nI p).toNatClampNeg = 4
  · exact wd_Bm (Nat.le_succ B) (wd_s4 hs hp he ho h0 hf hq hg hb hc hu w4)
  by_cases w5 : ops (nI p).toNatClampNeg = 5
  · exact wd_Bm (Nat.le_succ B) (wd_s5 hs hp he ho h0 hf hq hg hb hc hu w5)
  by_cases w6 : ops (nI p).toNatClampNeg = 6
  · exact wd_Bm (Nat.le_succ B) (wd_s6 hs hp he ho h0 hf hq hg hb hc hu w6)
  by_cases w7 : ops (nI p).toNatClampNeg = 7
  · exact wd_Bm (Nat.le_succ B) (wd_s7 hs hp he ho h0 hf hq hg hb hc hu w7)
  by_cases w8 : ops (nI p).toNatClampNeg = 8
  · exact wd_Bm (Nat.le_succ B) (wd_s8 hs hp he ho h0 hf hq hg hb hc hu w8)
  by_cases w9 : ops (nI p).toNatClampNeg = 9
  · exact wd_Bm (Nat.le_succ B) (wd_s9 hs hp he ho h0 hf hq hg hb hc hu w9)
  exact wd_s10 hs hp he ho h0 hf hq hg hb hc hu hB31 rfl w0 w1 w2 w3 w4 w5 w6 w7 w8 w9
end
