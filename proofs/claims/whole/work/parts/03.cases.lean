section
variable {s d o : Nat} {st bc cn : Int32} {ops fa fb bst bsk cs ge lc lo sk go la : Nat → Int32}
theorem wd_s0 {B e p : Nat} (hs : s ≤ 20) (hp : p < s) (he : e < 6) (ho : o ≤ B) (h0 : st ≠ 0) (hf : ∀ i, i < e → cs i = go i) (hq : cs e = nI p) (hg : wd_Ge ge) (hb : wd_Bk bst bsk sk) (hc : bc = nI (wd_cnt sk 20)) (hu : wd_Ou o lo la) (hw : ops (nI p).toNatClampNeg = 0) : wd_B (B) (fun post => wpX_carryOutNext post (nI s, bc, nI (e + 1), nI o, st, ops, fa, fb, bst, bsk, cs, ge, lc, lo)) (fun post => wpY_carryOut post (nI s, st, nI (e + 1), nI p, nI o, ops, fa, fb, sk, lc, go, ge, la)) := by
  have hpi : vp_in (nI p) 20 := vp_in_nI (by omega) (by omega)
  have hi : vp_in (nI (e + 1) - 1) 6 := by rw [nI_pred]; exact vp_in_nI he (by omega)
  have hr : cs (nI (e + 1) - 1).toNatClampNeg = nI p := (wd_rd (nI_pred e) (by omega)).trans hq
  have hA := wd_i3 he (fa (nI p).toNatClampNeg)
  have hB := wd_i3 he (fb (nI p).toNatClampNeg)
  refine wd_thru (wd_go (e := e) (ops := ops) (fa := fa) (fb := fb) (cn := nI p) (lc := upd lc ((nI (e + 1) - 1) * 4 + (fa (nI p).toNatClampNeg &&& 3)).toNatClampNeg (fb (nI p).toNatClampNeg)) hs he ho h0 hf hg hb hc hu (nI p + 1)) (fun post h => ?_) (fun post h => ?_)
  · exact ⟨hi, nm_r (e' := nI p) hr ⟨hpi, nm_r (e' := 0) hw (br_f (by decide) <| br_f (by decide) <| br_f (by decide) <| br_f (by decide) <| br_f (by decide) <| nm_e ⟨hpi, nm_e ⟨hpi, hB, nm_e ⟨hpi, nm_r (e' := 0) hw (br_f (by decide) <| br_f (by decide) <| br_t rfl ⟨hpi, hA, nm_e h⟩)⟩⟩⟩)⟩⟩
  · exact ⟨hpi, nm_r (e' := 0) hw ⟨hpi, nm_e ⟨hpi, nm_e (nm_e (nm_e (nm_e (nm_e (br_t rfl ⟨hA, nm_e h⟩)))))⟩⟩⟩
theorem wd_s1 {B e p : Nat} (hs : s ≤ 20) (hp : p < s) (he : e < 6) (ho : o ≤ B) (h0 : st ≠ 0) (hf : ∀ i, i < e → cs i = go i) (hq : cs e = nI p) (hg : wd_Ge ge) (hb : wd_Bk bst bsk sk) (hc : bc = nI (wd_cnt sk 20)) (hu : wd_Ou o lo la) (hw : ops (nI p).toNatClampNeg = 1) : wd_B (B) (fun post => wpX_carryOutNext post (nI s, bc, nI (e + 1), nI o, st, ops, fa, fb, bst, bsk, cs, ge, lc, lo)) (fun post => wpY_carryOut post (nI s, st, nI (e + 1), nI p, nI o, ops, fa, fb, sk, lc, go, ge, la)) := by
  have hpi : vp_in (nI p) 20 := vp_in_nI (by omega) (by omega)
  have hi : vp_in (nI (e + 1) - 1) 6 := by rw [nI_pred]; exact vp_in_nI he (by omega)
  have hr : cs (nI (e + 1) - 1).toNatClampNeg = nI p := (wd_rd (nI_pred e) (by omega)).trans hq
  have hA := wd_i3 he (fa (nI p).toNatClampNeg)
  have hB := wd_i3 he (fb (nI p).toNatClampNeg)
  refine wd_thru (wd_go (e := e) (ops := ops) (fa := fa) (fb := fb) (cn := nI p) (lc := upd lc ((nI (e + 1) - 1) * 4 + (fa (nI p).toNatClampNeg &&& 3)).toNatClampNeg (lc ((nI (e + 1) - 1) * 4 + (fb (nI p).toNatClampNeg &&& 3)).toNatClampNeg)) hs he ho h0 hf hg hb hc hu (nI p + 1)) (fun post h => ?_) (fun post h => ?_)
  · exact ⟨hi, nm_r (e' := nI p) hr ⟨hpi, nm_r (e' := 1) hw (br_f (by decide) <| br_f (by decide) <| br_f (by decide) <| br_f (by decide) <| br_f (by decide) <| nm_e ⟨hpi, nm_e ⟨hpi, hB, nm_e ⟨hpi, nm_r (e' := 1) hw (br_f (by decide) <| br_f (by decide) <| br_f (by decide) <| br_t rfl ⟨hA, nm_e h⟩)⟩⟩⟩)⟩⟩
  · exact ⟨hpi, nm_r (e' := 1) hw ⟨hpi, nm_e ⟨hpi, nm_e (nm_e (nm_e (nm_e (nm_e (br_f (by decide) <| br_t rfl ⟨hB, hA, nm_e h⟩)))))⟩⟩⟩
theorem wd_s2 {B e p : Nat} (hs : s ≤ 20) (hp : p < s) (he : e < 6) (ho : o ≤ B) (h0 : st ≠ 0) (hf : ∀ i, i < e → cs i = go i) (hq : cs e = nI p) (hg : wd_Ge ge) (hb : wd_Bk bst bsk sk) (hc : bc = nI (wd_cnt sk 20)) (hu : wd_Ou o lo la) (hw : ops (nI p).toNatClampNeg = 2) : wd_B (B) (fun post => wpX_carryOutNext post (nI s, bc, nI (e + 1), nI o, st, ops, fa, fb, bst, bsk, cs, ge, lc, lo)) (fun post => wpY_carryOut post (nI s, st, nI (e + 1), nI p, nI o, ops, fa, fb, sk, lc, go, ge, la)) := by
  have hpi : vp_in (nI p) 20 := vp_in_nI (by omega) (by omega)
  have hi : vp_in (nI (e + 1) - 1) 6 := by rw [nI_pred]; exact vp_in_nI he (by omega)
  have hr : cs (nI (e + 1) - 1).toNatClampNeg = nI p := (wd_rd (nI_pred e) (by omega)).trans hq
  have hA := wd_i3 he (fa (nI p).toNatClampNeg)
  have hB := wd_i3 he (fb (nI p).toNatClampNeg)
  refine wd_thru (wd_go (e := e) (ops := ops) (fa := fa) (fb := fb) (cn := nI p) (lc := upd lc ((nI (e + 1) - 1) * 4 + (fa (nI p).toNatClampNeg &&& 3)).toNatClampNeg (lc ((nI (e + 1) - 1) * 4 + (fa (nI p).toNatClampNeg &&& 3)).toNatClampNeg + lc ((nI (e + 1) - 1) * 4 + (fb (nI p).toNatClampNeg &&& 3)).toNatClampNeg)) hs he ho h0 hf hg hb hc hu (nI p + 1)) (fun post h => ?_) (fun post h => ?_)
  · exact ⟨hi, nm_r (e' := nI p) hr ⟨hpi, nm_r (e' := 2) hw (br_f (by decide) <| br_f (by decide) <| br_f (by decide) <| br_f (by decide) <| br_f (by decide) <| nm_e ⟨hpi, nm_e ⟨hpi, hB, nm_e ⟨hpi, nm_r (e' := 2) hw (br_f (by decide) <| br_f (by decide) <| br_f (by decide) <| br_f (by decide) <| br_t rfl ⟨hA, hA, nm_e h⟩)⟩⟩⟩)⟩⟩
  · exact ⟨hpi, nm_r (e' := 2) hw ⟨hpi, nm_e ⟨hpi, nm_e (nm_e (nm_e (nm_e (nm_e (br_f (by decide) <| br_f (by decide) <| br_t rfl ⟨hA, hB, hA, nm_e h⟩)))))⟩⟩⟩
theorem wd_s3 {B e p : Nat} (hs : s ≤ 20) (hp : p < s) (he : e < 6) (ho : o ≤ B) (h0 : st ≠ 0) (hf : ∀ i, i < e → cs i = go i) (hq : cs e = nI p) (hg : wd_Ge ge) (hb : wd_Bk bst bsk sk) (hc : bc = nI (wd_cnt sk 20)) (hu : wd_Ou o lo la) (hw : ops (nI p).toNatClampNeg = 3) : wd_B (B) (fun post => wpX_carryOutNext post (nI s, bc, nI (e + 1), nI o, st, ops, fa, fb, bst, bsk, cs, ge, lc, lo)) (fun post => wpY_carryOut post (nI s, st, nI (e + 1), nI p, nI o, ops, fa, fb, sk, lc, go, ge, la)) := by
  have hpi : vp_in (nI p) 20 := vp_in_nI (by omega) (by omega)
  have hi : vp_in (nI (e + 1) - 1) 6 := by rw [nI_pred]; exact vp_in_nI he (by omega)
  have hr : cs (nI (e + 1) - 1).toNatClampNeg = nI p := (wd_rd (nI_pred e) (by omega)).trans hq
  have hA := wd_i3 he (fa (nI p).toNatClampNeg)
  have hB := wd_i3 he (fb (nI p).toNatClampNeg)
  refine wd_thru (wd_go (e := e) (ops := ops) (fa := fa) (fb := fb) (cn := nI p) (lc := upd lc ((nI (e + 1) - 1) * 4 + (fa (nI p).toNatClampNeg &&& 3)).toNatClampNeg (lc ((nI (e + 1) - 1) * 4 + (fa (nI p).toNatClampNeg &&& 3)).toNatClampNeg - lc ((nI (e + 1) - 1) * 4 + (fb (nI p).toNatClampNeg &&& 3)).toNatClampNeg)) hs he ho h0 hf hg hb hc hu (nI p + 1)) (fun post h => ?_) (fun post h => ?_)
  · exact ⟨hi, nm_r (e' := nI p) hr ⟨hpi, nm_r (e' := 3) hw (br_f (by decide) <| br_f (by decide) <| br_f (by decide) <| br_f (by decide) <| br_f (by decide) <| nm_e ⟨hpi, nm_e ⟨hpi, hB, nm_e ⟨hpi, nm_r (e' := 3) hw (br_f (by decide) <| br_f (by decide) <| br_f (by decide) <| br_f (by decide) <| br_f (by decide) <| br_t rfl ⟨hA, hA, nm_e h⟩)⟩⟩⟩)⟩⟩
  · exact ⟨hpi, nm_r (e' := 3) hw ⟨hpi, nm_e ⟨hpi, nm_e (nm_e (nm_e (nm_e (nm_e (br_f (by decide) <| br_f (by decide) <| br_f (by decide) <| br_t rfl ⟨hA, hB, hA, nm_e h⟩)))))⟩⟩⟩
theorem wd_s4 {B e p : Nat} (hs : s ≤ 20) (hp : p < s) (he : e < 6) (ho : o ≤ B) (h0 : st ≠ 0) (hf : ∀ i, i < e → cs i = go i) (hq : cs e = nI p) (hg : wd_Ge ge) (hb : wd_Bk bst bsk sk) (hc : bc = nI (wd_cnt sk 20)) (hu : wd_Ou o lo la) (hw : ops (nI p).toNatClampNeg = 4) : wd_B (B) (fun post => wpX_carryOutNext post (nI s, bc, nI (e + 1), nI o, st, ops, fa, fb, bst, bsk, cs, ge, lc, lo)) (fun post => wpY_carryOut post (nI s, st, nI (e + 1), nI p, nI o, ops, fa, fb, sk, lc, go, ge, la)) := by
  have hpi : vp_in (nI p) 20 := vp_in_nI (by omega) (by omega)
  have hi : vp_in (nI (e + 1) - 1) 6 := by rw [nI_pred]; exact vp_in_nI he (by omega)
  have hr : cs (nI (e + 1) - 1).toNatClampNeg = nI p := (wd_rd (nI_pred e) (by omega)).trans hq
  have hA := wd_i3 he (fa (nI p).toNatClampNeg)
  have hB := wd_i3 he (fb (nI p).toNatClampNeg)
  refine wd_thru (wd_go (e := e) (ops := ops) (fa := fa) (fb := fb) (cn := nI p) (lc := upd lc ((nI (e + 1) - 1) * 4 + (fa (nI p).toNatClampNeg &&& 3)).toNatClampNeg (lc ((nI (e + 1) - 1) * 4 + (fa (nI p).toNatClampNeg &&& 3)).toNatClampNeg * lc ((nI (e + 1) - 1) * 4 + (fb (nI p).toNatClampNeg &&& 3)).toNatClampNeg)) hs he ho h0 hf hg hb hc hu (nI p + 1)) (fun post h => ?_) (fun post h => ?_)
  · exact ⟨hi, nm_r (e' := nI p) hr ⟨hpi, nm_r (e' := 4) hw (br_f (by decide) <| br_f (by decide) <| br_f (by decide) <| br_f (by decide) <| br_f (by decide) <| nm_e ⟨hpi, nm_e ⟨hpi, hB, nm_e ⟨hpi, nm_r (e' := 4) hw (br_f (by decide) <| br_f (by decide) <| br_f (by decide) <| br_f (by decide) <| br_f (by decide) <| br_f (by decide) <| br_t rfl ⟨hA, hA, nm_e h⟩)⟩⟩⟩)⟩⟩
  · exact ⟨hpi, nm_r (e' := 4) hw ⟨hpi, nm_e ⟨hpi, nm_e (nm_e (nm_e (nm_e (nm_e (br_f (by decide) <| br_f (by decide) <| br_f (by decide) <| br_f (by decide) <| br_t rfl ⟨hA, hB, hA, nm_e h⟩)))))⟩⟩⟩
-- the jumps
theorem wd_s5 {B e p : Nat} (hs : s ≤ 20) (hp : p < s) (he : e < 6) (ho : o ≤ B) (h0 : st ≠ 0) (hf : ∀ i, i < e → cs i = go i) (hq : cs e = nI p) (hg : wd_Ge ge) (hb : wd_Bk bst bsk sk) (hc : bc = nI (wd_cnt sk 20)) (hu : wd_Ou o lo la) (hw : ops (nI p).toNatClampNeg = 5) : wd_B (B) (fun post => wpX_carryOutNext post (nI s, bc, nI (e + 1), nI o, st, ops, fa, fb, bst, bsk, cs, ge, lc, lo)) (fun post => wpY_carryOut post (nI s, st, nI (e + 1), nI p, nI o, ops, fa, fb, sk, lc, go, ge, la)) := by
  have hpi : vp_in (nI p) 20 := vp_in_nI (by omega) (by omega)
  have hi : vp_in (nI (e + 1) - 1) 6 := by rw [nI_pred]; exact vp_in_nI he (by omega)
  have hr : cs (nI (e + 1) - 1).toNatClampNeg = nI p := (wd_rd (nI_pred e) (by omega)).trans hq
  have hA := wd_i3 he (fa (nI p).toNatClampNeg)
  have hC := wd_i3 he (fa (nI p).toNatClampNeg >>> ((2 : Int32) &&& 31))
  refine wd_thru (wd_go (e := e) (ops := ops) (fa := fa) (fb := fb) (cn := nI p) (lc := lc) hs he ho h0 hf hg hb hc hu (fb (nI p).toNatClampNeg)) (fun post h => ?_) (fun post h => ?_)
  · exact ⟨hi, nm_r (e' := nI p) hr ⟨hpi, nm_r (e' := 5) hw (br_f (by decide) <| br_f (by decide) <| br_t rfl <| nm_e ⟨hpi, nm_e ⟨hA, nm_e ⟨hC, nm_e ⟨hpi, nm_r (e' := 5) hw (br_t rfl <| br_f (by decide) ⟨hpi, h⟩)⟩⟩⟩⟩)⟩⟩
  · exact ⟨hpi, nm_r (e' := 5) hw ⟨hpi, nm_e ⟨hpi, nm_e (nm_e (nm_e (nm_e (nm_e (br_f (by decide) <| br_f (by decide) <| br_f (by decide) <| br_f (by decide) <| br_f (by decide) <| br_t rfl h)))))⟩⟩⟩
theorem wd_s6 {B e p : Nat} (hs : s ≤ 20) (hp : p < s) (he : e < 6) (ho : o ≤ B) (h0 : st ≠ 0) (hf : ∀ i, i < e → cs i = go i) (hq : cs e = nI p) (hg : wd_Ge ge) (hb : wd_Bk bst bsk sk) (hc : bc = nI (wd_cnt sk 20)) (hu : wd_Ou o lo la) (hw : ops (nI p).toNatClampNeg = 6) : wd_B (B) (fun post => wpX_carryOutNext post (nI s, bc, nI (e + 1), nI o, st, ops, fa, fb, bst, bsk, cs, ge, lc, lo)) (fun post => wpY_carryOut post (nI s, st, nI (e + 1), nI p, nI o, ops, fa, fb, sk, lc, go, ge, la)) := by
  have hpi : vp_in (nI p) 20 := vp_in_nI (by omega) (by omega)
  have hi : vp_in (nI (e + 1) - 1) 6 := by rw [nI_pred]; exact vp_in_nI he (by omega)
  have hr : cs (nI (e + 1) - 1).toNatClampNeg = nI p := (wd_rd (nI_pred e) (by omega)).trans hq
  have hA := wd_i3 he (fa (nI p).toNatClampNeg)
  have hC := wd_i3 he (fa (nI p).toNatClampNeg >>> ((2 : Int32) &&& 31))
  by_cases hl : lc ((nI (e + 1) - 1) * 4 + (fa (nI p).toNatClampNeg &&& 3)).toNatClampNeg < lc ((nI (e + 1) - 1) * 4 + ((fa (nI p).toNatClampNeg >>> ((2 : Int32) &&& 31)) &&& 3)).toNatClampNeg
  · refine wd_thru (wd_go (e := e) (ops := ops) (fa := fa) (fb := fb) (cn := nI p) (lc := lc) hs he ho h0 hf hg hb hc hu (fb (nI p).toNatClampNeg)) (fun post h => ?_) (fun post h => ?_)
    · exact ⟨hi, nm_r (e' := nI p) hr ⟨hpi, nm_r (e' := 6) hw (br_f (by decide) <| br_f (by decide) <| br_f (by decide) <| br_t rfl <| nm_e ⟨hpi, nm_e ⟨hA, nm_e ⟨hC, nm_e ⟨hpi, nm_r (e' := 6) hw (br_f (by decide) <| br_t rfl <| br_t hl <| br_f (by decide) ⟨hpi, h⟩)⟩⟩⟩⟩)⟩⟩
    · exact ⟨hpi, nm_r (e' := 6) hw ⟨hpi, nm_e ⟨hpi, nm_e (nm_e (nm_e (nm_e (nm_e (br_f (by decide) <| br_f (by decide) <| br_f (by decide) <| br_f (by decide) <| br_f (by decide) <| br_f (by decide) <| br_t rfl ⟨hA, hC, br_f (Int32.not_le.mpr hl) h⟩)))))⟩⟩⟩
  · refine wd_thru (wd_go (e := e) (ops := ops) (fa := fa) (fb := fb) (cn := nI p) (lc := lc) hs he ho h0 hf hg hb hc hu (nI p + 1)) (fun post h => ?_) (fun post h => ?_)
    · exact ⟨hi, nm_r (e' := nI p) hr ⟨hpi, nm_r (e' := 6) hw (br_f (by decide) <| br_f (by decide) <| br_f (by decide) <| br_t rfl <| nm_e ⟨hpi, nm_e ⟨hA, nm_e ⟨hC, nm_e ⟨hpi, nm_r (e' := 6) hw (br_f (by decide) <| br_t rfl <| br_f hl <| br_f (by decide) <| br_t rfl h)⟩⟩⟩⟩)⟩⟩
    · exact ⟨hpi, nm_r (e' := 6) hw ⟨hpi, nm_e ⟨hpi, nm_e (nm_e (nm_e (nm_e (nm_e (br_f (by decide) <| br_f (by decide) <| br_f (by decide) <| br_f (by decide) <| br_f (by decide) <| br_f (by decide) <| br_t rfl ⟨hA, hC, br_t (Int32.not_lt.mp hl) h⟩)))))⟩⟩⟩
theorem wd_s7 {B e p : Nat} (hs : s ≤ 20) (hp : p < s) (he : e < 6) (ho : o ≤ B) (h0 : st ≠ 0) (hf : ∀ i, i < e → cs i = go i) (hq : cs e = nI p) (hg : wd_Ge ge) (hb : wd_Bk bst bsk sk) (hc : bc = nI (wd_cnt sk 20)) (hu : wd_Ou o lo la) (hw : ops (nI p).toNatClampNeg = 7) : wd_B (B) (fun post => wpX_carryOutNext post (nI s, bc, nI (e + 1), nI o, st, ops, fa, fb, bst, bsk, cs, ge, lc, lo)) (fun post => wpY_carryOut post (nI s, st, nI (e + 1), nI p, nI o, ops, fa, fb, sk, lc, go, ge, la)) := by
  have hpi : vp_in (nI p) 20 := vp_in_nI (by omega) (by omega)
  have hi : vp_in (nI (e + 1) - 1) 6 := by rw [nI_pred]; exact vp_in_nI he (by omega)
  have hr : cs (nI (e + 1) - 1).toNatClampNeg = nI p := (wd_rd (nI_pred e) (by omega)).trans hq
  have hA := wd_i3 he (fa (nI p).toNatClampNeg)
  have hC := wd_i3 he (fa (nI p).toNatClampNeg >>> ((2 : Int32) &&& 31))
  by_cases hl : lc ((nI (e + 1) - 1) * 4 + (fa (nI p).toNatClampNeg &&& 3)).toNatClampNeg = 0
  · refine wd_thru (wd_go (e := e) (ops := ops) (fa := fa) (fb := fb) (cn := nI p) (lc := lc) hs he ho h0 hf hg hb hc hu (fb (nI p).toNatClampNeg)) (fun post h => ?_) (fun post h => ?_)
    · exact ⟨hi, nm_r (e' := nI p) hr ⟨hpi, nm_r (e' := 7) hw (br_f (by decide) <| br_f (by decide) <| br_f (by decide) <| br_f (by decide) <| br_t rfl <| nm_e ⟨hpi, nm_e ⟨hA, nm_e ⟨hC, nm_e ⟨hpi, nm_r (e' := 7) hw (br_f (by decide) <| br_f (by decide) <| br_t rfl <| br_t hl <| br_f (by decide) ⟨hpi, h⟩)⟩⟩⟩⟩)⟩⟩
    · exact ⟨hpi, nm_r (e' := 7) hw ⟨hpi, nm_e ⟨hpi, nm_e (nm_e (nm_e (nm_e (nm_e (br_f (by decide) <| br_f (by decide) <| br_f (by decide) <| br_f (by decide) <| br_f (by decide) <| br_f (by decide) <| br_f (by decide) <| br_t rfl ⟨hA, br_t hl h⟩)))))⟩⟩⟩
  · refine wd_thru (wd_go (e := e) (ops := ops) (fa := fa) (fb := fb) (cn := nI p) (lc := lc) hs he ho h0 hf hg hb hc hu (nI p + 1)) (fun post h => ?_) (fun post h => ?_)
    · exact ⟨hi, nm_r (e' := nI p) hr ⟨hpi, nm_r (e' := 7) hw (br_f (by decide) <| br_f (by decide) <| br_f (by decide) <| br_f (by decide) <| br_t rfl <| nm_e ⟨hpi, nm_e ⟨hA, nm_e ⟨hC, nm_e ⟨hpi, nm_r (e' := 7) hw (br_f (by decide) <| br_f (by decide) <| br_t rfl <| br_f hl <| br_t rfl h)⟩⟩⟩⟩)⟩⟩
    · exact ⟨hpi, nm_r (e' := 7) hw ⟨hpi, nm_e ⟨hpi, nm_e (nm_e (nm_e (nm_e (nm_e (br_f (by decide) <| br_f (by decide) <| br_f (by decide) <| br_f (by decide) <| br_f (by decide) <| br_f (by decide) <| br_f (by decide) <| br_t rfl ⟨hA, br_f hl h⟩)))))⟩⟩⟩
end
