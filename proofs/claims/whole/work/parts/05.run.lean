section
-- the count of the breaks
theorem wd_cnt_eq (f g : Nat → Int32) : ∀ n, (∀ i, i < n → (f i < 0 ↔ g i < 0)) → wd_cnt f n = wd_cnt g n
  | 0, _ => rfl
  | n + 1, h => by
    show wd_cnt f n + (if f n < 0 then 0 else 1) = wd_cnt g n + (if g n < 0 then 0 else 1)
    rw [wd_cnt_eq f g n (fun i hi => h i (by omega))]
    have := h n (by omega)
    by_cases z : f n < 0
    · rw [if_pos z, if_pos (this.mp z)]
    · rw [if_neg z, if_neg (fun q => z (this.mpr q))]
theorem wd_cnt_out (f : Nat → Int32) (p : Nat) (v : Int32) (n : Nat) (h : n ≤ p) : wd_cnt (upd f p v) n = wd_cnt f n :=
  wd_cnt_eq _ _ n (fun i hi => by rw [pk_un (by omega)])
theorem wd_cnt_same (f : Nat → Int32) (p : Nat) (v : Int32) (n : Nat) (h : ¬ f p < 0) (hv : ¬ v < 0) : wd_cnt (upd f p v) n = wd_cnt f n :=
  wd_cnt_eq _ _ n (fun i hi => by
    by_cases z : i = p
    · rw [z, pk_us]; exact ⟨fun q => absurd q hv, fun q => absurd q h⟩
    · rw [pk_un z])
theorem wd_cnt_up {f : Nat → Int32} {p : Nat} {v : Int32} (h : f p < 0) (hv : ¬ v < 0) : ∀ n, p < n → wd_cnt (upd f p v) n = wd_cnt f n + 1
  | 0, q => absurd q (by omega)
  | n + 1, q => by
    show wd_cnt (upd f p v) n + (if upd f p v n < 0 then 0 else 1) = wd_cnt f n + (if f n < 0 then 0 else 1) + 1
    by_cases z : n = p
    · subst z
      rw [wd_cnt_out f n v n (by omega), pk_us, if_neg hv, if_pos h]
    · rw [wd_cnt_up h hv n (by omega), pk_un z]
      omega
theorem wd_cnt_dn {f : Nat → Int32} {p : Nat} {v : Int32} (h : ¬ f p < 0) (hv : v < 0) : ∀ n, p < n → wd_cnt (upd f p v) n + 1 = wd_cnt f n
  | 0, q => absurd q (by omega)
  | n + 1, q => by
    show wd_cnt (upd f p v) n + (if upd f p v n < 0 then 0 else 1) + 1 = wd_cnt f n + (if f n < 0 then 0 else 1)
    by_cases z : n = p
    · subst z
      rw [wd_cnt_out f n v n (by omega), pk_us, if_pos hv, if_neg h]
    · rw [← wd_cnt_dn h hv n (by omega), pk_un z]
      omega
end
section
variable {s d o : Nat} {st bc cn : Int32} {ops fa fb bst bsk cs ge lc lo sk go la : Nat → Int32}
theorem wd_hbT {fr oc : Int32} {post : Int32 → Prop} {p : Nat} (hs : s ≤ 20) (hp : p < s) (hb : bst p = 1) (h : post 1) : wpX_hasBreak post (nI s, bc, fr, oc, st, ops, fa, fb, bst, bsk, cs, ge, lc, lo) (nI p) := by
  unfold wpX_hasBreak
  dsimp only
  exact wd_inT hs hp (br_f (by decide) ⟨vp_in_nI (by omega) (by omega), br_f (by rw [nI_clamp (by omega), hb]; decide) h⟩)
theorem wd_hbF {fr oc : Int32} {post : Int32 → Prop} {p : Nat} (hs : s ≤ 20) (hp : p < s) (hb : bst p = 0) (h : post 0) : wpX_hasBreak post (nI s, bc, fr, oc, st, ops, fa, fb, bst, bsk, cs, ge, lc, lo) (nI p) := by
  unfold wpX_hasBreak
  dsimp only
  exact wd_inT hs hp (br_f (by decide) ⟨vp_in_nI (by omega) (by omega), br_t (by rw [nI_clamp (by omega), hb]) h⟩)
theorem wd_hbN {fr oc : Int32} {post : Int32 → Prop} {x : Int32} (hn : wd_no s x) (h : post 0) : wpX_hasBreak post (nI s, bc, fr, oc, st, ops, fa, fb, bst, bsk, cs, ge, lc, lo) x := by
  unfold wpX_hasBreak
  dsimp only
  exact wd_inF hn (br_t rfl h)
end
-- the loop from its head, and its tail behind the look at the breaks
def wd_L (g : Int32) (most m n B : Nat) : Prop := ∀ (s e o p : Nat) (st bc : Int32) (ops fa fb bst bsk cs ge lc lo sk go la : Nat → Int32) (hs : s ≤ 20) (hp : p < s) (he : e < 6) (ho : o ≤ B) (h0 : st ≠ 0) (hf : ∀ i, i < e → cs i = go i) (hq : cs e = nI p) (hg : wd_Ge ge) (hb : wd_Bk bst bsk sk) (hc : bc = nI (wd_cnt sk 20)) (hu : wd_Ou o lo la), ∃ (r : Int32) (u : SX) (v : SY), wd_R (B + m + 1) u v ∧ (∀ post : Int32 → SX → Prop, post r u → wX_runCommand_37 post g (nI most) (m + 1 + 1) (nI n) (nI s) bc (nI (e + 1)) (nI o) st ops fa fb bst bsk cs ge lc lo) ∧ (∀ post : Int32 → SY → Prop, post r v → wY_run_54 post g (nI most) (m + 1) (nI n) (nI s) st (nI (e + 1)) (nI p) (nI o) ops fa fb sk lc go ge la)
def wd_T (g : Int32) (most m n B : Nat) : Prop := ∀ (s e o p : Nat) (st bc : Int32) (ops fa fb bst bsk cs ge lc lo sk go la : Nat → Int32) (hs : s ≤ 20) (hp : p < s) (he : e < 6) (ho : o ≤ B) (h0 : st ≠ 0) (hf : ∀ i, i < e → cs i = go i) (hq : cs e = nI p) (hg : wd_Ge ge) (hb : wd_Bk bst bsk sk) (hc : bc = nI (wd_cnt sk 20)) (hu : wd_Ou o lo la), ∃ (r : Int32) (u : SX) (v : SY), wd_R (B + m) u v ∧ (∀ post : Int32 → SX → Prop, post r u → wX_runCommand_37 post g (nI most) (m + 1) (nI (n + 1)) (nI s) bc (nI (e + 1)) (nI o) st ops fa fb bst bsk cs ge lc lo) ∧ (∀ post : Int32 → SY → Prop, post r v → wY_run_154 post (wY_run_54 post g (nI most) m) g (nI most) (nI n) (nI s) st (nI (e + 1)) (nI p) (nI o) ops fa fb sk lc go ge la)
theorem wd_T0 (g : Int32) (n B : Nat) (hn : n ≤ 300) : wd_T g n 0 n B := by
  intro s e o p st bc ops fa fb bst bsk cs ge lc lo sk go la hs hp he ho h0 hf hq hg hb hc hu
  refine ⟨nI n, (nI s, bc, nI (e + 1), nI o, 4, ops, fa, fb, bst, bsk, cs, ge, lc, lo), (nI s, 4, nI (e + 1), nI p, nI o, ops, fa, fb, sk, lc, go, ge, la), ⟨s, e + 1, o, 4, bc, nI p, ops, fa, fb, bst, bsk, cs, ge, lc, lo, sk, go, la, rfl, rfl, ⟨hs, he, ho, fun _ => by omega, fun _ _ _ => ⟨p, hp, rfl⟩, ⟨fun i h => hf i (by omega), fun i h => by cases h; exact hq⟩, hg, hb, hc, hu⟩⟩, fun post h => ?_, fun post h => ?_⟩
  · exact br_t (nI_lt (by omega) (by omega)) h
  · exact br_t rfl h
theorem wd_TS (g : Int32) (most m n B : Nat) (hn : n < most) (hm : most ≤ 300) (L : wd_L g most m (n + 1) B) : wd_T g most (m + 1) n B := by
  intro s e o p st bc ops fa fb bst bsk cs ge lc lo sk go la hs hp he ho h0 hf hq hg hb hc hu
  obtain ⟨r, u, v, R, hX, hY⟩ := L s e o p st bc ops fa fb bst bsk cs ge lc lo sk go la hs hp he ho h0 hf hq hg hb hc hu
  refine ⟨r, u, v, R, fun post h => hX post h, fun post h => ?_⟩
  exact br_f (fun z => by have := (nI_eq (by omega) (by omega)).mp z; omega) (nm_r (nI_1 n) (hY post h))
theorem wd_body (g : Int32) (most m n B : Nat) (hn : n ≤ most) (hm : most ≤ 300) (hB31 : B < 2 ^ 30) (T : wd_T g most m n (B + 1)) : wd_L g most m n B := by
  intro s e o p st bc ops fa fb bst bsk cs ge lc lo sk go la hs hp he ho h0 hf hq hg hb hc hu
  obtain ⟨u', v', ⟨s', d', o', st', bc', cn', ops', fa', fb', bst', bsk', cs', ge', lc', lo', sk', go', la', rfl, rfl, ⟨Fs, Fd, Fo, F1, Fru, Ffr, Fg, Fb, Fc, Fu⟩, n0⟩, hX, hY⟩ := wd_step (ops := ops) (fa := fa) (fb := fb) (lc := lc) hs hp he ho h0 hf hq hg hb hc hu hB31
  have hle : B + 1 ≤ B + m + 1 := by omega
  have k1 : ¬ nI most < nI n := nI_nlt (by omega) (by omega)
  have k2 : ¬ (300 : Int32) < nI n := nI_nlt (a := 300) (by omega) (by decide)
  have hd1 : 1 ≤ d' := F1 n0
  obtain ⟨e', rfl⟩ : ∃ e', d' = e' + 1 := ⟨d' - 1, by omega⟩
  by_cases h5 : st' = 5
  · exact ⟨nI n, _, _, ⟨s', e' + 1, o', st', bc', cn', ops', fa', fb', bst', bsk', cs', ge', lc', lo', sk', go', la', rfl, rfl, ⟨Fs, Fd, Nat.le_trans Fo hle, F1, Fru, Ffr, Fg, Fb, Fc, Fu⟩⟩, fun post h => br_f k1 (hX _ (br_f n0 (br_t h5 (br_t rfl h)))), fun post h => br_f k2 (hY _ (br_t h5 h))⟩
  by_cases h6 : st' = 6
  · exact ⟨nI n, _, _, ⟨s', e' + 1, o', st', bc', cn', ops', fa', fb', bst', bsk', cs', ge', lc', lo', sk', go', la', rfl, rfl, ⟨Fs, Fd, Nat.le_trans Fo hle, F1, Fru, Ffr, Fg, Fb, Fc, Fu⟩⟩, fun post h => br_f k1 (hX _ (br_f n0 (br_f h5 (br_t h6 (br_t rfl h))))), fun post h => br_f k2 (hY _ (br_f h5 (br_t h6 h)))⟩
  obtain ⟨p', hp', rfl⟩ := Fru n0 h5 h6
  have hq' : cs' e' = nI p' := Ffr.2 e' rfl
  have hf' : ∀ i, i < e' → cs' i = go' i := fun i hi => Ffr.1 i (by omega)
  by_cases hgo : g < nI (e' + 1)
  · have hi : vp_in (nI (e' + 1) - 1) 6 := by rw [nI_pred]; exact vp_in_nI (by omega) (by omega)
    have hr : cs' (nI (e' + 1) - 1).toNatClampNeg = nI p' := (wd_rd (nI_pred e') (by omega)).trans hq'
    have hpi : vp_in (nI p') 20 := vp_in_nI (by omega) (by omega)
    have cl : (nI p').toNatClampNeg = p' := nI_clamp (by omega)
    rcases Fb p' (by omega) with ⟨b0, k0⟩ | ⟨b1, j, hj, ej, kj⟩
    · obtain ⟨r, u, v, R, tX, tY⟩ := T s' e' o' p' st' bc' ops' fa' fb' bst' bsk' cs' ge' lc' lo' sk' go' la' Fs hp' (by omega) Fo n0 hf' hq' Fg Fb Fc Fu
      have z0 : ¬ sk' (nI p').toNatClampNeg = 0 := by rw [cl, k0]; decide
      have z1 : sk' (nI p').toNatClampNeg ≤ 0 := by rw [cl, k0]; decide
      refine ⟨r, u, v, wd_Rm (by omega) R, fun post h => br_f k1 (hX _ (br_f n0 (br_f h5 (br_f h6 (br_f (by decide) (br_t hgo ⟨hi, nm_r (e' := nI p') hr (wd_hbF Fs hp' b0 (br_t rfl (br_t rfl (nm_r (nI_1 n) (tX post h)))))⟩)))))), fun post h => br_f k2 (hY _ (br_f h5 (br_f h6 (br_t hgo ⟨hpi, br_f z0 ⟨hpi, br_t z1 (tY post h)⟩⟩))))⟩
    · cases j with
      | zero =>
        have x0 : bsk' (nI p').toNatClampNeg = 0 := by rw [cl, ej]; rfl
        have z0 : sk' (nI p').toNatClampNeg = 0 := by rw [cl, kj]; rfl
        exact ⟨nI n, (nI s', bc', nI (e' + 1), nI o', 3, ops', fa', fb', bst', bsk', cs', ge', lc', lo'), (nI s', 3, nI (e' + 1), nI p', nI o', ops', fa', fb', sk', lc', go', ge', la'), ⟨s', e' + 1, o', 3, bc', nI p', ops', fa', fb', bst', bsk', cs', ge', lc', lo', sk', go', la', rfl, rfl, ⟨Fs, Fd, Nat.le_trans Fo hle, fun _ => hd1, fun _ _ _ => ⟨p', hp', rfl⟩, Ffr, Fg, Fb, Fc, Fu⟩⟩, fun post h => br_f k1 (hX _ (br_f n0 (br_f h5 (br_f h6 (br_f (by decide) (br_t hgo ⟨hi, nm_r (e' := nI p') hr (wd_hbT Fs hp' b1 (br_f (by decide) ⟨hpi, br_t x0 (br_f (by decide) h)⟩))⟩)))))), fun post h => br_f k2 (hY _ (br_f h5 (br_f h6 (br_t hgo ⟨hpi, br_t z0 h⟩))))⟩
      | succ i =>
        have x0 : ¬ bsk' (nI p').toNatClampNeg = 0 := by rw [cl, ej]; exact nI_ne0 (by omega) (by omega)
        have z0 : ¬ sk' (nI p').toNatClampNeg = 0 := by rw [cl, kj]; exact nI_ne0 (by omega) (by omega)
        have z1 : ¬ sk' (nI p').toNatClampNeg ≤ 0 := by rw [cl, kj]; exact nI_nle (by omega) (by omega)
        have Fb' : wd_Bk bst' (upd bsk' p' (nI i)) (upd sk' p' (nI i)) := fun q hq => by
          by_cases z : q = p'
          · rw [z, pk_us, pk_us]; exact Or.inr ⟨b1, i, by omega, rfl, rfl⟩
          · rw [pk_un z, pk_un z]; exact Fb q hq
        have Fc' : bc' = nI (wd_cnt (upd sk' p' (nI i)) 20) := by
          rw [wd_cnt_same sk' p' (nI i) 20 (by rw [kj]; exact nI_pos (by omega)) (nI_pos (by omega))]; exact Fc
        obtain ⟨r, u, v, R, tX, tY⟩ := T s' e' o' p' st' bc' ops' fa' fb' bst' (upd bsk' p' (nI i)) cs' ge' lc' lo' (upd sk' p' (nI i)) go' la' Fs hp' (by omega) Fo n0 hf' hq' Fg Fb' Fc' Fu
        refine ⟨r, u, v, wd_Rm (by omega) R, fun post h => br_f k1 (hX _ (br_f n0 (br_f h5 (br_f h6 (br_f (by decide) (br_t hgo ⟨hi, nm_r (e' := nI p') hr (wd_hbT Fs hp' b1 (br_f (by decide) ⟨hpi, br_f x0 ⟨hpi, hpi, nm_r (e' := upd bsk' p' (nI i)) (wd_up rfl (by omega) (by rw [cl, ej, nI_pred])) (br_t rfl (nm_r (nI_1 n) (tX post h)))⟩⟩))⟩)))))), fun post h => br_f k2 (hY _ (br_f h5 (br_f h6 (br_t hgo ⟨hpi, br_f z0 ⟨hpi, br_f z1 ⟨hpi, hpi, nm_r (e' := upd sk' p' (nI i)) (wd_up rfl (by omega) (by rw [cl, kj, nI_pred])) (tY post h)⟩⟩⟩))))⟩
  · exact ⟨nI n, (nI s', bc', nI (e' + 1), nI o', 2, ops', fa', fb', bst', bsk', cs', ge', lc', lo'), (nI s', 2, nI (e' + 1), nI p', nI o', ops', fa', fb', sk', lc', go', ge', la'), ⟨s', e' + 1, o', 2, bc', nI p', ops', fa', fb', bst', bsk', cs', ge', lc', lo', sk', go', la', rfl, rfl, ⟨Fs, Fd, Nat.le_trans Fo hle, fun _ => hd1, fun _ _ _ => ⟨p', hp', rfl⟩, Ffr, Fg, Fb, Fc, Fu⟩⟩, fun post h => br_f k1 (hX _ (br_f n0 (br_f h5 (br_f h6 (br_f (by decide) (br_f hgo h)))))), fun post h => br_f k2 (hY _ (br_f h5 (br_f h6 (br_f hgo h))))⟩
theorem wd_loop (g : Int32) (most : Nat) (hm : most ≤ 300) : ∀ (m n B : Nat), n + m = most → B + m < 2 ^ 30 → wd_L g most m n B
  | 0, n, B, h, hB => by
    have : n = most := by omega
    subst this
    exact wd_body g n 0 n B (by omega) hm (by omega) (wd_T0 g n (B + 1) hm)
  | m + 1, n, B, h, hB => wd_body g most (m + 1) n B (by omega) hm (by omega) (wd_TS g most m n (B + 1) (by omega) hm (wd_loop g most hm m (n + 1) (B + 1) (by omega) (by omega)))
