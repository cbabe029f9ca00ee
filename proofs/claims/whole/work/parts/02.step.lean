section
variable {s d o : Nat} {st bc cn : Int32} {ops fa fb bst bsk cs ge lc lo sk go la : Nat → Int32}
theorem wd_inT {fr oc : Int32} {post : Int32 → Prop} {p : Nat} (hs : s ≤ 20) (hp : p < s) (h : post 1) : wpX_isInstruction post (nI s, bc, fr, oc, st, ops, fa, fb, bst, bsk, cs, ge, lc, lo) (nI p) :=
  br_f (nI_pos (by omega)) (br_f (nI_ge hp (by omega)) h)
theorem wd_inF {fr oc : Int32} {post : Int32 → Prop} {x : Int32} (hn : wd_no s x) (h : post 0) : wpX_isInstruction post (nI s, bc, fr, oc, st, ops, fa, fb, bst, bsk, cs, ge, lc, lo) x :=
  hn.elim (fun a => br_t a h) (fun a => br_f a.1 (br_t a.2 h))
theorem wd_ynT {fr oc : Int32} {post : Int32 → Prop} {p : Nat} (hs : s ≤ 20) (hp : p < s) (h : post 0) : wpY_noInstruction post (nI s, st, fr, cn, oc, ops, fa, fb, sk, lc, go, ge, la) (nI p) :=
  br_f (nI_pos (by omega)) (br_t (nI_lt hp (by omega)) h)
theorem wd_ynF {fr oc : Int32} {post : Int32 → Prop} {x : Int32} (hn : wd_no s x) (h : post 1) : wpY_noInstruction post (nI s, st, fr, cn, oc, ops, fa, fb, sk, lc, go, ge, la) x :=
  hn.elim (fun a => br_t a h) (fun a => br_f a.1 (br_f (Int32.not_lt.mpr a.2) h))
-- both sides go to x
theorem wd_go {B e : Nat} (hs : s ≤ 20) (he : e < 6) (ho : o ≤ B) (h0 : st ≠ 0) (hf : ∀ i, i < e → cs i = go i) (hg : wd_Ge ge) (hb : wd_Bk bst bsk sk) (hc : bc = nI (wd_cnt sk 20)) (hu : wd_Ou o lo la) (x : Int32) :
    wd_B B (fun post => wpX_goTo post (nI s, bc, nI (e + 1), nI o, st, ops, fa, fb, bst, bsk, cs, ge, lc, lo) x) (fun post => wY_carryOut_467 post x (nI s) st (nI (e + 1)) cn (nI o) ops fa fb sk lc go ge la) := by
  have hi : vp_in (nI (e + 1) - 1) 6 := by rw [nI_pred]; exact vp_in_nI he (by omega)
  have hF : wd_Fr (e + 1) (upd cs e x) go x := ⟨fun i h => (pk_un (by omega)).trans (hf i (by omega)), fun i h => by cases h; exact pk_us⟩
  rcases wd_case hs x with ⟨p, hp, rfl⟩ | hn
  · refine ⟨(nI s, bc, nI (e + 1), nI o, st, ops, fa, fb, bst, bsk, upd cs e (nI p), ge, lc, lo), (nI s, st, nI (e + 1), nI p, nI o, ops, fa, fb, sk, lc, go, ge, la), ⟨s, e + 1, o, st, bc, nI p, ops, fa, fb, bst, bsk, upd cs e (nI p), ge, lc, lo, sk, go, la, rfl, rfl, ⟨hs, he, ho, fun _ => by omega, fun _ _ _ => ⟨p, hp, rfl⟩, hF, hg, hb, hc, hu⟩, h0⟩, fun post h => ?_, fun post h => ?_⟩
    · exact ⟨hi, nm_r (e' := upd cs e (nI p)) (wd_up (nI_pred e) (by omega) rfl) (wd_inT hs hp (br_f (by decide) h))⟩
    · exact wd_ynT hs hp (br_t rfl h)
  · refine ⟨(nI s, bc, nI (e + 1), nI o, 6, ops, fa, fb, bst, bsk, upd cs e x, ge, lc, lo), (nI s, 6, nI (e + 1), x, nI o, ops, fa, fb, sk, lc, go, ge, la), ⟨s, e + 1, o, 6, bc, x, ops, fa, fb, bst, bsk, upd cs e x, ge, lc, lo, sk, go, la, rfl, rfl, ⟨hs, he, ho, fun _ => by omega, fun _ _ z => absurd rfl z, hF, hg, hb, hc, hu⟩, by decide⟩, fun post h => ?_, fun post h => ?_⟩
    · exact ⟨hi, nm_r (e' := upd cs e x) (wd_up (nI_pred e) (by omega) rfl) (wd_inF hn (br_t rfl h))⟩
    · exact wd_ynF hn (br_f (by decide) h)
theorem wd_i3 {e : Nat} (he : e < 6) (x : Int32) : vp_in ((nI (e + 1) - 1) * 4 + (x &&& 3)) 24 := by
  rw [wd_base, wd_b3]
  have := wd_m3lt x
  exact vp_in_nI (by omega) (by omega)
-- a frame is laid
theorem wd_add {f : Nat} {oc : Int32} {post : SX → Prop} {p a : Int32} (hf : f < 6)
    (h : post (nI s, bc, nI (f + 1), oc, st, ops, fa, fb, bst, bsk, upd cs f p, ge, upd (upd (upd (upd lc (f * 4) a) (f * 4 + 1) 0) (f * 4 + 2) 0) (f * 4 + 3) 0, lo)) : wpX_addFrame post (nI s, bc, nI f, oc, st, ops, fa, fb, bst, bsk, cs, ge, lc, lo) p a := by
  have i0 : vp_in (nI (f * 4)) 24 := vp_in_nI (by omega) (by omega)
  have i1 : vp_in (nI (f * 4) + 1) 24 := by rw [nI_1]; exact vp_in_nI (by omega) (by omega)
  have i2 : vp_in (nI (f * 4) + 2) 24 := pk_in (f * 4 + 2) 24 (by omega) (nI_add (f * 4) 2)
  have i3 : vp_in (nI (f * 4) + 3) 24 := pk_in (f * 4 + 3) 24 (by omega) (nI_add (f * 4) 3)
  refine nm_r (e' := nI (f * 4)) (wd_mul4 f) ⟨i0, nm_r (e' := upd lc (f * 4) a) (wd_up rfl (by omega) rfl) ⟨0 + 1 + 1 + 1 + 1, ?_⟩⟩
  refine br_f (by decide) ⟨i1, nm_r (e' := upd (upd lc (f * 4) a) (f * 4 + 1) 0) (wd_up (nI_1 _) (by omega) rfl) (nm_r (e' := 2) (by decide) ?_)⟩
  refine br_f (by decide) ⟨i2, nm_r (e' := upd (upd (upd lc (f * 4) a) (f * 4 + 1) 0) (f * 4 + 2) 0) (wd_up (nI_add (f * 4) 2) (by omega) rfl) (nm_r (e' := 3) (by decide) ?_)⟩
  refine br_f (by decide) ⟨i3, nm_r (e' := upd (upd (upd (upd lc (f * 4) a) (f * 4 + 1) 0) (f * 4 + 2) 0) (f * 4 + 3) 0) (wd_up (nI_add (f * 4) 3) (by omega) rfl) (nm_r (e' := 4) (by decide) ?_)⟩
  exact br_t (by decide) ⟨vp_in_nI hf (by omega), nm_r (e' := upd cs f p) (wd_up rfl (by omega) rfl) (nm_r (e' := nI (f + 1)) (nI_1 f) h)⟩
end
