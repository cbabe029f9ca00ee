section
-- pasted from kit/rows
theorem pk_us {f : Nat → Int32} {k : Nat} {x : Int32} : upd f k x k = x := if_pos rfl
theorem pk_un {f : Nat → Int32} {k j : Nat} {x : Int32} (h : j ≠ k) : upd f k x j = f j := if_neg h
theorem pk_sub {a b : Nat} (h : b ≤ a) : nI a - nI b = nI (a - b) := by
  obtain ⟨c, rfl⟩ : ∃ c, a = c + b := ⟨a - b, by omega⟩
  rw [← nI_add, Int32.add_sub_cancel, Nat.add_sub_cancel]
theorem pk_m1 (n : Nat) : nI (n + 1) + (-1) = nI n := by
  rw [← nI_1, Int32.add_assoc, show (1 : Int32) + (-1) = 0 from rfl, Int32.add_zero]
theorem pk_mul (a b : Nat) : nI a * nI b = nI (a * b) := (Int32.ofNat_mul a b).symm
theorem pk_ix (x : Int32) {n : Nat} (hn : n < 2 ^ 31) : x < 0 ∨ nI n ≤ x ∨ ∃ j : Nat, j < n ∧ x = nI j := by
  by_cases h : x < 0
  · exact Or.inl h
  · obtain ⟨j, hj, rfl⟩ := nI_of h
    by_cases h2 : j < n
    · exact Or.inr (Or.inr ⟨j, h2, rfl⟩)
    · exact Or.inr (Or.inl (nI_le (by omega) hj))
theorem pk_le {x y : Int32} {A B : Prop} (a b : Nat) (f : a ≤ b → A) (g : b < a → B) (hx : x = nI a := by rfl) (hy : y = nI b := by rfl) (ha : a < 2 ^ 31 := by omega) (hb : b < 2 ^ 31 := by omega) : (x ≤ y → A) ∧ (¬ x ≤ y → B) := by
  subst hx hy
  rw [nI_leI ha hb]
  exact ⟨f, fun z => g (by omega)⟩
theorem pk_lt {x y : Int32} {A B : Prop} (a b : Nat) (f : a < b → A) (g : b ≤ a → B) (hx : x = nI a := by rfl) (hy : y = nI b := by rfl) (ha : a < 2 ^ 31 := by omega) (hb : b < 2 ^ 31 := by omega) : (x < y → A) ∧ (¬ x < y → B) := by
  subst hx hy
  rw [nI_ltI ha hb]
  exact ⟨f, fun z => g (by omega)⟩
theorem pk_eq {x y : Int32} {A B : Prop} (a b : Nat) (f : a = b → A) (g : a ≠ b → B) (hx : x = nI a := by rfl) (hy : y = nI b := by rfl) (ha : a < 2 ^ 31 := by omega) (hb : b < 2 ^ 31 := by omega) : (x = y → A) ∧ (¬ x = y → B) := by
  subst hx hy
  rw [nI_eq ha hb]
  exact ⟨f, g⟩
theorem pk_in {x : Int32} (n N : Nat) (h : n < N) (hx : x = nI n := by rfl) (hN : N < 2 ^ 31 := by omega) : vp_in x N := by
  subst hx
  exact vp_in_nI h hN
theorem pk_cl {x : Int32} (n : Nat) (hx : x = nI n := by rfl) (h : n < 2 ^ 31 := by omega) : x.toNatClampNeg = n := by
  subst hx
  exact nI_clamp h
theorem pk_tn {n : Nat} (h : n < 2 ^ 32) : (nI n).toBitVec.toNat = n := Nat.mod_eq_of_lt h
theorem pk_and (x : Int32) {m : Int32} (k : Nat) (hm : m.toBitVec.toNat = 2 ^ k - 1) : x &&& m = nI (x.toBitVec.toNat % 2 ^ k) := by
  apply Int32.toBitVec_inj.mp
  apply BitVec.eq_of_toNat_eq
  rw [Int32.toBitVec_and, BitVec.toNat_and, hm, Nat.and_two_pow_sub_one_eq_mod]
  show _ = (BitVec.ofNat 32 _).toNat
  rw [BitVec.toNat_ofNat]
  exact (Nat.mod_eq_of_lt (Nat.lt_of_le_of_lt (Nat.mod_le _ _) x.toBitVec.isLt)).symm
theorem pk_andN {n : Nat} (h : n < 2 ^ 32) {m : Int32} (k : Nat) (hm : m.toBitVec.toNat = 2 ^ k - 1) : nI n &&& m = nI (n % 2 ^ k) := by
  rw [pk_and _ k hm, pk_tn h]
-- own rows: numbers
theorem wd_up {f : Nat → Int32} {x v w : Int32} {i : Nat} (h : x = nI i) (hi : i < 2 ^ 31) (hv : v = w) : upd f x.toNatClampNeg v = upd f i w := by rw [h, nI_clamp hi, hv]
theorem wd_rd {f : Nat → Int32} {x : Int32} {i : Nat} (h : x = nI i) (hi : i < 2 ^ 31) : f x.toNatClampNeg = f i := by rw [h, nI_clamp hi]
def wd_m3 (x : Int32) : Nat := x.toBitVec.toNat % 4
theorem wd_m3lt (x : Int32) : wd_m3 x < 4 := Nat.mod_lt _ (by decide)
theorem wd_and3 (x : Int32) : x &&& 3 = nI (wd_m3 x) := pk_and x 2 (by decide)
theorem wd_and7 {n : Nat} (h : n < 2 ^ 31) : nI n &&& 7 = nI (n % 8) := pk_andN (by omega) 3 (by decide)
theorem wd_mul4 (e : Nat) : nI e * 4 = nI (e * 4) := pk_mul e 4
theorem wd_base (e : Nat) : (nI (e + 1) - 1) * 4 = nI (e * 4) := by rw [nI_pred, wd_mul4]
theorem wd_b3 (e : Nat) (x : Int32) : nI (e * 4) + (x &&& 3) = nI (e * 4 + wd_m3 x) := by rw [wd_and3, nI_add]
-- a number of an instruction, or none
def wd_no (s : Nat) (x : Int32) : Prop := x < 0 ∨ (¬ x < 0 ∧ nI s ≤ x)
theorem wd_case {s : Nat} (hs : s ≤ 20) (x : Int32) : (∃ p : Nat, p < s ∧ x = nI p) ∨ wd_no s x := by
  by_cases h : x < 0
  · exact Or.inr (Or.inl h)
  · rcases pk_ix x (n := s) (by omega) with h1 | h1 | h1
    · exact absurd h1 h
    · exact Or.inr (Or.inr ⟨h, h1⟩)
    · exact Or.inl h1
-- the count of the standing breaks
def wd_cnt (f : Nat → Int32) : Nat → Nat
  | 0 => 0
  | n + 1 => wd_cnt f n + (if f n < 0 then 0 else 1)
-- the facts that tie the two states
def wd_Fr (d : Nat) (cs go : Nat → Int32) (cn : Int32) : Prop := (∀ i, i + 1 < d → cs i = go i) ∧ (∀ e, d = e + 1 → cs e = cn)
def wd_Ge (ge : Nat → Int32) : Prop := ∀ i, ∃ j : Nat, j < 4 ∧ ge i = nI j
def wd_Bk (bst bsk sk : Nat → Int32) : Prop := ∀ i, i < 20 → (bst i = 0 ∧ sk i = -1) ∨ (bst i = 1 ∧ ∃ j : Nat, j ≤ 100 ∧ bsk i = nI j ∧ sk i = nI j)
def wd_Ou (o : Nat) (lo la : Nat → Int32) : Prop := ∀ b, b < 8 → b < o → lo ((o - 1 - b) % 8) = la b
def wd_Ru (s : Nat) (st cn : Int32) : Prop := st ≠ 0 → st ≠ 5 → st ≠ 6 → ∃ p : Nat, p < s ∧ cn = nI p
def wd_F (B s d o : Nat) (st bc cn : Int32) (bst bsk cs ge lo sk go la : Nat → Int32) : Prop :=
  s ≤ 20 ∧ d ≤ 6 ∧ o ≤ B ∧ (st ≠ 0 → 1 ≤ d) ∧ wd_Ru s st cn ∧ wd_Fr d cs go cn ∧ wd_Ge ge ∧ wd_Bk bst bsk sk ∧ bc = nI (wd_cnt sk 20) ∧ wd_Ou o lo la
def wd_R (B : Nat) (u : SX) (v : SY) : Prop := ∃ (s d o : Nat) (st bc cn : Int32) (ops fa fb bst bsk cs ge lc lo sk go la : Nat → Int32),
  u = (nI s, bc, nI d, nI o, st, ops, fa, fb, bst, bsk, cs, ge, lc, lo) ∧ v = (nI s, st, nI d, cn, nI o, ops, fa, fb, sk, lc, go, ge, la) ∧ wd_F B s d o st bc cn bst bsk cs ge lo sk go la
def wd_S (B : Nat) (u : SX) (v : SY) : Prop := ∃ (s d o : Nat) (st bc cn : Int32) (ops fa fb bst bsk cs ge lc lo sk go la : Nat → Int32),
  u = (nI s, bc, nI d, nI o, st, ops, fa, fb, bst, bsk, cs, ge, lc, lo) ∧ v = (nI s, st, nI d, cn, nI o, ops, fa, fb, sk, lc, go, ge, la) ∧ wd_F B s d o st bc cn bst bsk cs ge lo sk go la ∧ st ≠ 0
theorem wd_SR {B : Nat} {u : SX} {v : SY} (h : wd_S B u v) : wd_R B u v := by
  obtain ⟨s, d, o, st, bc, cn, ops, fa, fb, bst, bsk, cs, ge, lc, lo, sk, go, la, e1, e2, F, -⟩ := h
  exact ⟨s, d, o, st, bc, cn, ops, fa, fb, bst, bsk, cs, ge, lc, lo, sk, go, la, e1, e2, F⟩
theorem wd_Fm {B C : Nat} (h : B ≤ C) {s d o : Nat} {st bc cn : Int32} {bst bsk cs ge lo sk go la : Nat → Int32} (F : wd_F B s d o st bc cn bst bsk cs ge lo sk go la) : wd_F C s d o st bc cn bst bsk cs ge lo sk go la :=
  ⟨F.1, F.2.1, Nat.le_trans F.2.2.1 h, F.2.2.2⟩
theorem wd_Rm {B C : Nat} (hBC : B ≤ C) {u : SX} {v : SY} (h : wd_R B u v) : wd_R C u v := by
  obtain ⟨s, d, o, st, bc, cn, ops, fa, fb, bst, bsk, cs, ge, lc, lo, sk, go, la, e1, e2, F⟩ := h
  exact ⟨s, d, o, st, bc, cn, ops, fa, fb, bst, bsk, cs, ge, lc, lo, sk, go, la, e1, e2, wd_Fm hBC F⟩
-- a call of no answer: one end for both sides, whatever is asked there
def wd_B (B : Nat) (PX : (SX → Prop) → Prop) (PY : (SY → Prop) → Prop) : Prop := ∃ (u : SX) (v : SY), wd_S B u v ∧ (∀ post, post u → PX post) ∧ (∀ post, post v → PY post)
theorem wd_thru {B : Nat} {PX PX' : (SX → Prop) → Prop} {PY PY' : (SY → Prop) → Prop} (h : wd_B B PX PY) (hX : ∀ post, PX post → PX' post) (hY : ∀ post, PY post → PY' post) : wd_B B PX' PY' := by
  obtain ⟨u, v, R, a, b⟩ := h
  exact ⟨u, v, R, fun post hp => hX post (a post hp), fun post hp => hY post (b post hp)⟩
theorem wd_etaX (post : SX → Prop) : (fun u : SX => match u with | (a1, a2, a3, a4, a5, a6, a7, a8, a9, a10, a11, a12, a13, a14) => post (a1, a2, a3, a4, a5, a6, a7, a8, a9, a10, a11, a12, a13, a14)) = post := rfl
-- the relation owed, and that it lasts
def i_Rel (k : Nat) (u : SX) (v : SY) : Prop := wd_R (75 * k) u v
theorem i_up {k : Nat} {u : SX} {v : SY} (h : i_Rel k u v) : i_Rel (k + 4) u v := wd_Rm (by omega) h
end
section
section
variable {s d o : Nat} {st bc cn : Int32} {ops fa fb bst bsk cs ge lc lo sk go la : Nat → Int32}
theorem wd_inT {fr oc : Int32} {post : Int32 → Prop} {p : Nat} (hs : s ≤ 20) (hp : p < s) (h : post 1) : wpX_isInstruction post (nI s, bc, fr, oc, st, ops, fa, fb, bst, bsk, cs, ge, lc, lo) (nI p) :=
  br_f (nI_pos (by omega)) (br_f (nI_ge hp (by omega)) h)
theorem wd_inF {fr oc : Int32} {post : Int32 → Prop} {x : Int32} (hn : wd_no s x) (h : post 0) : wpX_isInstruction post (nI s, bc, fr, oc, st, ops, fa, fb, bst, bsk, cs, ge, lc, lo) x :=
  hn.elim (fun a => br_t a h) (fun a => br_f a.1 (br_t a.2 h))
theorem wd_ynT {fr oc : Int32} {post : Int32 → Prop} {p : Nat} (hs : s ≤ 20) (hp : p < s) (h : post 0) : wpY_noInstruction post (nI s, st, fr, cn, oc, ops, fa, fb, sk, lc, go, ge, la) (nI p) :=
  br_f (nI_pos (by omega)) (br_t (nI_lt hp (by omega)) h)
theorem wd_ynF {fr oc : Int32} {post : Int32 → Prop} {x : Int32} (hn : wd_no s x) (h : post 1) : wpY_noInstruction post (nI s, st, fr, cn, oc, ops, fa, fb, sk, lc, go, ge, la) x :=
  hn.elim (fun a => br_t a h) (fun a => br_f a.1 (br_f (Int32.not_lt.mpr a.2) h))
-- both sides go to x
theorem wd_go {B e : Nat} (hs : s ≤ 20) (he : e < 6) (ho : o ≤ B) (h0 : st ≠ 0) (hf : ∀ i, i < e → cs i = go i) (hg : wd_Ge ge) (hb : wd_Bk bst bsk sk) (hc : bc = nI (wd_cnt sk 20)) (hu : wd_Ou o lo la) (x : Int32) :
    wd_B B (fun post => wpX_goTo post (nI s, bc, nI (e + 1), nI o, st, ops, fa, fb, bst, bsk, cs, ge, lc, lo) x) (fun post => wY_carryOut_467 post x (nI s) st (nI (e + 1)) cn (nI o) ops fa fb sk lc go ge la) := by
  have hi : vp_in (nI (e + 1) - 1) 6 := by rw [nI_pred]; exact vp_in_nI he (by omega)
  have hF : wd_Fr (e + 1) (upd cs e x) go x := ⟨fun i h => (pk_un (by omega)).trans (hf i (by omega)), fun i h => by cases h; exact pk_us⟩
  rcases wd_case hs x with ⟨p, hp, rfl⟩ | hn
  · refine ⟨(nI s, bc, nI (e + 1), nI o, st, ops, fa, fb, bst, bsk, upd cs e (nI p), ge, lc, lo), (nI s, st, nI (e + 1), nI p, nI o, ops, fa, fb, sk, lc, go, ge, la), ⟨s, e + 1, o, st, bc, nI p, ops, fa, fb, bst, bsk, upd cs e (nI p), ge, lc, lo, sk, go, la, rfl, rfl, ⟨hs, he, ho, fun _ => by omega, fun _ _ _ => ⟨p, hp, rfl⟩, hF, hg, hb, hc, hu⟩, h0⟩, fun post h => ?_, fun post h => ?_⟩
    · exact ⟨hi, nm_r (e' := upd cs e (nI p)) (wd_up (nI_pred e) (by omega) rfl) (wd_inT hs hp (br_f (by decide) h))⟩
    · exact wd_ynT hs hp (br_t rfl h)
  · refine ⟨(nI s, bc, nI (e + 1), nI o, 6, ops, fa, fb, bst, bsk, upd cs e x, ge, lc, lo), (nI s, 6, nI (e + 1), x, nI o, ops, fa, fb, sk, lc, go, ge, la), ⟨s, e + 1, o, 6, bc, x, ops, fa, fb, bst, bsk, upd cs e x, ge, lc, lo, sk, go, la, rfl, rfl, ⟨hs, he, ho, fun _ => by omega, fun _ _ z => absurd rfl z, hF, hg, hb, hc, hu⟩, by decide⟩, fun post h => ?_, fun post h => ?_⟩
    · exact ⟨hi, nm_r (e' := upd cs e x) (wd_up (nI_pred e) (by omega) rfl) (wd_inF hn (br_t rfl h))⟩
    · exact wd_ynF hn (br_f (by decide) h)
theorem wd_i3 {e : Nat} (he : e < 6) (x : Int32) : vp_in ((nI (e + 1) - 1) * 4 + (x &&& 3)) 24 := by
  rw [wd_base, wd_b3]
  have := wd_m3lt x
  exact vp_in_nI (by omega) (by omega)
-- a frame is laid
theorem wd_add {f : Nat} {oc : Int32} {post : SX → Prop} {p a : Int32} (hf : f < 6)
    (h : post (nI s, bc, nI (f + 1), oc, st, ops, fa, fb, bst, bsk, upd cs f p, ge, upd (upd (upd (upd lc (f * 4) a) (f * 4 + 1) 0) (f * 4 + 2) 0) (f * 4 + 3) 0, lo)) : wpX_addFrame post (nI s, bc, nI f, oc, st, ops, fa, fb, bst, bsk, cs, ge, lc, lo) p a := by
  have i0 : vp_in (nI (f * 4)) 24 := vp_in_nI (by omega) (by omega)
  have i1 : vp_in (nI (f * 4) + 1) 24 := by rw [nI_1]; exact vp_in_nI (by omega) (by omega)
  have i2 : vp_in (nI (f * 4) + 2) 24 := pk_in (f * 4 + 2) 24 (by omega) (nI_add (f * 4) 2)
  have i3 : vp_in (nI (f * 4) + 3) 24 := pk_in (f * 4 + 3) 24 (by omega) (nI_add (f * 4) 3)
  refine nm_r (e' := nI (f * 4)) (wd_mul4 f) ⟨i0, nm_r (e' := upd lc (f * 4) a) (wd_up rfl (by omega) rfl) ⟨0 + 1 + 1 + 1 + 1, ?_⟩⟩
  refine br_f (by decide) ⟨i1, nm_r (e' := upd (upd lc (f * 4) a) (f * 4 + 1) 0) (wd_up (nI_1 _) (by omega) rfl) (nm_r (e' := 2) (by decide) ?_)⟩
  refine br_f (by decide) ⟨i2, nm_r (e' := upd (upd (upd lc (f * 4) a) (f * 4 + 1) 0) (f * 4 + 2) 0) (wd_up (nI_add (f * 4) 2) (by omega) rfl) (nm_r (e' := 3) (by decide) ?_)⟩
  refine br_f (by decide) ⟨i3, nm_r (e' := upd (upd (upd (upd lc (f * 4) a) (f * 4 + 1) 0) (f * 4 + 2) 0) (f * 4 + 3) 0) (wd_up (nI_add (f * 4) 3) (by omega) rfl) (nm_r (e' := 4) (by decide) ?_)⟩
  exact br_t (by decide) ⟨vp_in_nI hf (by omega), nm_r (e' := upd cs f p) (wd_up rfl (by omega) rfl) (nm_r (e' := nI (f + 1)) (nI_1 f) h)⟩
end
end
section
section
variable {s d o : Nat} {st bc cn : Int32} {ops fa fb bst bsk cs ge lc lo sk go la : Nat → Int32}
theorem wd_s0 {B e p : Nat} (hs : s ≤ 20) (hp : p < s) (he : e < 6) (ho : o ≤ B) (h0 : st ≠ 0) (hf : ∀ i, i < e → cs i = go i) (hq : cs e = nI p) (hg : wd_Ge ge) (hb : wd_Bk bst bsk sk) (hc : bc = nI (wd_cnt sk 20)) (hu : wd_Ou o lo la) (hw : ops (nI p).toNatClampNeg = 0) : wd_B (B) (fun post => wpX_carryOutNext post (nI s, bc, nI (e + 1), nI o, st, ops, fa, fb, bst, bsk, cs, ge, lc, lo)) (fun post => wpY_carryOut post (nI s, st, nI (e + 1), nI p, nI o, ops, fa, fb, sk, lc, go, ge, la)) := by
  have hpi : vp_in (nI p) 20 := vp_in_nI (by omega) (by omega)
  have hi : vp_in (nI (e + 1) - 1) 6 := by rw [nI_pred]; exact vp_in_nI he (by omega)
  have hr : cs (nI (e + 1) - 1).toNatClampNeg = nI p := (wd_rd (nI_pred e) (by omega)).trans hq
  have hA := wd_i3 he (fa (nI p).toNatClampNeg)
  have hB := wd_i3 he (fb (nI p).toNatClampNeg)
  refine wd_thru (wd_go (e := e) (ops := ops) (fa := fa) (fb := fb) (cn := nI p) (lc := upd lc ((nI (e + 1) - 1) * 4 + (fa (nI p).toNatClampNeg &&& 3)).toNatClampNeg (fb (nI p).toNatClampNeg)) hs he ho h0 hf hg hb hc hu (nI p + 1)) (fun post h => ?_) (fun post h => ?_)
  · exact ⟨hi, nm_r (e' := nI p) hr ⟨hpi, nm_r (e' := 0) hw (br_f (by decide) <| br_f (by decide) <| br_f (by decide) <| br_f (by decide) <| br_f (by decide) <| nm_e ⟨hpi, nm_e ⟨hpi, hB, nm_e ⟨hpi, nm_r (e' := 0) hw (br_f (by decide) <| br_f (by decide) <| br_t rfl ⟨hpi, hA, nm_e h⟩)⟩⟩⟩)⟩⟩
  · exact ⟨hpi, nm_r (e' := 0) hw ⟨hpi, nm_e ⟨hpi, nm_e (nm_e (nm_e (nm_e (nm_e (br_t rfl ⟨hA, nm_e h⟩)))))⟩⟩⟩
theorem wd_s1 {B e p : Nat} (hs : s ≤ 20) (hp : p < s) (he : e < 6) (ho : o ≤ B) (h0 : st ≠ 0) (hf : ∀ i, i < e → cs i = go i) (hq : cs e = nI p) (hg : wd_Ge ge) (hb : wd_Bk bst bsk sk) (hc : bc = nI (wd_cnt sk 20)) (hu : wd_Ou o lo la) (hw : ops (nI p).toNatClampNeg = 1) : wd_B (B) (fun post => wpX_carryOutNext post (nI s, bc, nI (e + 1), nI o, st, ops, fa, fb, bst, bsk, cs, ge, lc, lo)) (fun post => wpY_carryOut post (nI s, st, nI (e + 1), nI p, nI o, ops, fa, fb, sk, lc, go, ge, la)) := by
  have hpi : vp_in (nI p) 20 := vp_in_nI (by omega) (by omega)
  have hi : vp_in (nI (e + 1) - 1) 6 := by rw [nI_pred]; exact vp_in_nI he (by omega)
  have hr : cs (nI (e + 1) - 1).toNatClampNeg = nI p := (wd_rd (nI_pred e) (by omega)).trans hq
  have hA := wd_i3 he (fa (nI p).toNatClampNeg)
  have hB := wd_i3 he (fb (nI p).toNatClampNeg)
  refine wd_thru (wd_go (e := e) (ops := ops) (fa := fa) (fb := fb) (cn := nI p) (lc := upd lc ((nI (e + 1) - 1) * 4 + (fa (nI p).toNatClampNeg &&& 3)).toNatClampNeg (lc ((nI (e + 1) - 1) * 4 + (fb (nI p).toNatClampNeg &&& 3)).toNatClampNeg)) hs he ho h0 hf hg hb hc hu (nI p + 1)) (fun post h => ?_) (fun post h => ?_)
  · exact ⟨hi, nm_r (e' := nI p) hr ⟨hpi, nm_r (e' := 1) hw (br_f (by decide) <| br_f (by decide) <| br_f (by decide) <| br_f (by decide) <| br_f (by decide) <| nm_e ⟨hpi, nm_e ⟨hpi, hB, nm_e ⟨hpi, nm_r (e' := 1) hw (br_f (by decide) <| br_f (by decide) <| br_f (by decide) <| br_t rfl ⟨hA, nm_e h⟩)⟩⟩⟩)⟩⟩
  · exact ⟨hpi, nm_r (e' := 1) hw ⟨hpi, nm_e ⟨hpi, nm_e (nm_e (nm_e (nm_e (nm_e (br_f (by decide) <| br_t rfl ⟨hB, hA, nm_e h⟩)))))⟩⟩⟩
theorem wd_s2 {B e p : Nat} (hs : s ≤ 20) (hp : p < s) (he : e < 6) (ho : o ≤ B) (h0 : st ≠ 0) (hf : ∀ i, i < e → cs i = go i) (hq : cs e = nI p) (hg : wd_Ge ge) (hb : wd_Bk bst bsk sk) (hc : bc = nI (wd_cnt sk 20)) (hu : wd_Ou o lo la) (hw : ops (nI p).toNatClampNeg = 2) : wd_B (B) (fun post => wpX_carryOutNext post (nI s, bc, nI (e + 1), nI o, st, ops, fa, fb, bst, bsk, cs, ge, lc, lo)) (fun post => wpY_carryOut post (nI s, st, nI (e + 1), nI p, nI o, ops, fa, fb, sk, lc, go, ge, la)) := by
  have hpi : vp_in (nI p) 20 := vp_in_nI (by omega) (by omega)
  have hi : vp_in (nI (e + 1) - 1) 6 := by rw [nI_pred]; exact vp_in_nI he (by omega)
  have hr : cs (nI (e + 1) - 1).toNatClampNeg = nI p := (wd_rd (nI_pred e) (by omega)).trans hq
  have hA := wd_i3 he (fa (nI p).toNatClampNeg)
  have hB := wd_i3 he (fb (nI p).toNatClampNeg)
  refine wd_thru (wd_go (e := e) (ops := ops) (fa := fa) (fb := fb) (cn := nI p) (lc := upd lc ((nI (e + 1) - 1) * 4 + (fa (nI p).toNatClampNeg &&& 3)).toNatClampNeg (lc ((nI (e + 1) - 1) * 4 + (fa (nI p).toNatClampNeg &&& 3)).toNatClampNeg + lc ((nI (e + 1) - 1) * 4 + (fb (nI p).toNatClampNeg &&& 3)).toNatClampNeg)) hs he ho h0 hf hg hb hc hu (nI p + 1)) (fun post h => ?_) (fun post h => ?_)
  · exact ⟨hi, nm_r (e' := nI p) hr ⟨hpi, nm_r (e' := 2) hw (br_f (by decide) <| br_f (by decide) <| br_f (by decide) <| br_f (by decide) <| br_f (by decide) <| nm_e ⟨hpi, nm_e ⟨hpi, hB, nm_e ⟨hpi, nm_r (e' := 2) hw (br_f (by decide) <| br_f (by decide) <| br_f (by decide) <| br_f (by decide) <| br_t rfl ⟨hA, hA, nm_e h⟩)⟩⟩⟩)⟩⟩
  · exact ⟨hpi, nm_r (e' := 2) hw ⟨hpi, nm_e ⟨hpi, nm_e (nm_e (nm_e (nm_e (nm_e (br_f (by decide) <| br_f (by decide) <| br_t rfl ⟨hA, hB, hA, nm_e h⟩)))))⟩⟩⟩
theorem wd_s3 {B e p : Nat} (hs : s ≤ 20) (hp : p < s) (he : e < 6) (ho : o ≤ B) (h0 : st ≠ 0) (hf : ∀ i, i < e → cs i = go i) (hq : cs e = nI p) (hg : wd_Ge ge) (hb : wd_Bk bst bsk sk) (hc : bc = nI (wd_cnt sk 20)) (hu : wd_Ou o lo la) (hw : ops (nI p).toNatClampNeg = 3) : wd_B (B) (fun post => wpX_carryOutNext post (nI s, bc, nI (e + 1), nI o, st, ops, fa, fb, bst, bsk, cs, ge, lc, lo)) (fun post => wpY_carryOut post (nI s, st, nI (e + 1), nI p, nI o, ops, fa, fb, sk, lc, go, ge, la)) := by
  have hpi : vp_in (nI p) 20 := vp_in_nI (by omega) (by omega)
  have hi : vp_in (nI (e + 1) - 1) 6 := by rw [nI_pred]; exact vp_in_nI he (by omega)
  have hr : cs (nI (e + 1) - 1).toNatClampNeg = nI p := (wd_rd (nI_pred e) (by omega)).trans hq
  have hA := wd_i3 he (fa (nI p).toNatClampNeg)
  have hB := wd_i3 he (fb (nI p).toNatClampNeg)
  refine wd_thru (wd_go (e := e) (ops := ops) (fa := fa) (fb := fb) (cn := nI p) (lc := upd lc ((nI (e + 1) - 1) * 4 + (fa (nI p).toNatClampNeg &&& 3)).toNatClampNeg (lc ((nI (e + 1) - 1) * 4 + (fa (nI p).toNatClampNeg &&& 3)).toNatClampNeg - lc ((nI (e + 1) - 1) * 4 + (fb (nI p).toNatClampNeg &&& 3)).toNatClampNeg)) hs he ho h0 hf hg hb hc hu (nI p + 1)) (fun post h => ?_) (fun post h => ?_)
  · exact ⟨hi, nm_r (e' := nI p) hr ⟨hpi, nm_r (e' := 3) hw (br_f (by decide) <| br_f (by decide) <| br_f (by decide) <| br_f (by decide) <| br_f (by decide) <| nm_e ⟨hpi, nm_e ⟨hpi, hB, nm_e ⟨hpi, nm_r (e' := 3) hw (br_f (by decide) <| br_f (by decide) <| br_f (by decide) <| br_f (by decide) <| br_f (by decide) <| br_t rfl ⟨hA, hA, nm_e h⟩)⟩⟩⟩)⟩⟩
  · exact ⟨hpi, nm_r (e' := 3) hw ⟨hpi, nm_e ⟨hpi, nm_e (nm_e (nm_e (nm_e (nm_e (br_f (by decide) <| br_f (by decide) <| br_f (by decide) <| br_t rfl ⟨hA, hB, hA, nm_e h⟩)))))⟩⟩⟩
theorem wd_s4 {B e p : Nat} (hs : s ≤ 20) (hp : p < s) (he : e < 6) (ho : o ≤ B) (h0 : st ≠ 0) (hf : ∀ i, i < e → cs i = go i) (hq : cs e = nI p) (hg : wd_Ge ge) (hb : wd_Bk bst bsk sk) (hc : bc = nI (wd_cnt sk 20)) (hu : wd_Ou o lo la) (hw : ops (nI p).toNatClampNeg = 4) : wd_B (B) (fun post => wpX_carryOutNext post (nI s, bc, nI (e + 1), nI o, st, ops, fa, fb, bst, bsk, cs, ge, lc, lo)) (fun post => wpY_carryOut post (nI s, st, nI (e + 1), nI p, nI o, ops, fa, fb, sk, lc, go, ge, la)) := by
  have hpi : vp_in (nI p) 20 := vp_in_nI (by omega) (by omega)
  have hi : vp_in (nI (e + 1) - 1) 6 := by rw [nI_pred]; exact vp_in_nI he (by omega)
  have hr : cs (nI (e + 1) - 1).toNatClampNeg = nI p := (wd_rd (nI_pred e) (by omega)).trans hq
  have hA := wd_i3 he (fa (nI p).toNatClampNeg)
  have hB := wd_i3 he (fb (nI p).toNatClampNeg)
  refine wd_thru (wd_go (e := e) (ops := ops) (fa := fa) (fb := fb) (cn := nI p) (lc := upd lc ((nI (e + 1) - 1) * 4 + (fa (nI p).toNatClampNeg &&& 3)).toNatClampNeg (lc ((nI (e + 1) - 1) * 4 + (fa (nI p).toNatClampNeg &&& 3)).toNatClampNeg * lc ((nI (e + 1) - 1) * 4 + (fb (nI p).toNatClampNeg &&& 3)).toNatClampNeg)) hs he ho h0 hf hg hb hc hu (nI p + 1)) (fun post h => ?_) (fun post h => ?_)
  · exact ⟨hi, nm_r (e' := nI p) hr ⟨hpi, nm_r (e' := 4) hw (br_f (by decide) <| br_f (by decide) <| br_f (by decide) <| br_f (by decide) <| br_f (by decide) <| nm_e ⟨hpi, nm_e ⟨hpi, hB, nm_e ⟨hpi, nm_r (e' := 4) hw (br_f (by decide) <| br_f (by decide) <| br_f (by decide) <| br_f (by decide) <| br_f (by decide) <| br_f (by decide) <| br_t rfl ⟨hA, hA, nm_e h⟩)⟩⟩⟩)⟩⟩
  · exact ⟨hpi, nm_r (e' := 4) hw ⟨hpi, nm_e ⟨hpi, nm_e (nm_e (nm_e (nm_e (nm_e (br_f (by decide) <| br_f (by decide) <| br_f (by decide) <| br_f (by decide) <| br_t rfl ⟨hA, hB, hA, nm_e h⟩)))))⟩⟩⟩
-- the jumps
theorem wd_s5 {B e p : Nat} (hs : s ≤ 20) (hp : p < s) (he : e < 6) (ho : o ≤ B) (h0 : st ≠ 0) (hf : ∀ i, i < e → cs i = go i) (hq : cs e = nI p) (hg : wd_Ge ge) (hb : wd_Bk bst bsk sk) (hc : bc = nI (wd_cnt sk 20)) (hu : wd_Ou o lo la) (hw : ops (nI p).toNatClampNeg = 5) : wd_B (B) (fun post => wpX_carryOutNext post (nI s, bc, nI (e + 1), nI o, st, ops, fa, fb, bst, bsk, cs, ge, lc, lo)) (fun post => wpY_carryOut post (nI s, st, nI (e + 1), nI p, nI o, ops, fa, fb, sk, lc, go, ge, la)) := by
  have hpi : vp_in (nI p) 20 := vp_in_nI (by omega) (by omega)
  have hi : vp_in (nI (e + 1) - 1) 6 := by rw [nI_pred]; exact vp_in_nI he (by omega)
  have hr : cs (nI (e + 1) - 1).toNatClampNeg = nI p := (wd_rd (nI_pred e) (by omega)).trans hq
  have hA := wd_i3 he (fa (nI p).toNatClampNeg)
  have hC := wd_i3 he (fa (nI p).toNatClampNeg >>> ((2 : Int32) &&& 31))
  refine wd_thru (wd_go (e := e) (ops := ops) (fa := fa) (fb := fb) (cn := nI p) (lc := lc) hs he ho h0 hf hg hb hc hu (fb (nI p).toNatClampNeg)) (fun post h => ?_) (fun post h => ?_)
  · exact ⟨hi, nm_r (e' := nI p) hr ⟨hpi, nm_r (e' := 5) hw (br_f (by decide) <| br_f (by decide) <| br_t rfl <| nm_e ⟨hpi, nm_e ⟨hA, nm_e ⟨hC, nm_e ⟨hpi, nm_r (e' := 5) hw (br_t rfl <| br_f (by decide) ⟨hpi, h⟩)⟩⟩⟩⟩)⟩⟩
  · exact ⟨hpi, nm_r (e' := 5) hw ⟨hpi, nm_e ⟨hpi, nm_e (nm_e (nm_e (nm_e (nm_e (br_f (by decide) <| br_f (by decide) <| br_f (by decide) <| br_f (by decide) <| br_f (by decide) <| br_t rfl h)))))⟩⟩⟩
theorem wd_s6 {B e p : Nat} (hs : s ≤ 20) (hp : p < s) (he : e < 6) (ho : o ≤ B) (h0 : st ≠ 0) (hf : ∀ i, i < e → cs i = go i) (hq : cs e = nI p) (hg : wd_Ge ge) (hb : wd_Bk bst bsk sk) (hc : bc = nI (wd_cnt sk 20)) (hu : wd_Ou o lo la) (hw : ops (nI p).toNatClampNeg = 6) : wd_B (B) (fun post => wpX_carryOutNext post (nI s, bc, nI (e + 1), nI o, st, ops, fa, fb, bst, bsk, cs, ge, lc, lo)) (fun post => wpY_carryOut post (nI s, st, nI (e + 1), nI p, nI o, ops, fa, fb, sk, lc, go, ge, la)) := by
  have hpi : vp_in (nI p) 20 := vp_in_nI (by omega) (by omega)
  have hi : vp_in (nI (e + 1) - 1) 6 := by rw [nI_pred]; exact vp_in_nI he (by omega)
  have hr : cs (nI (e + 1) - 1).toNatClampNeg = nI p := (wd_rd (nI_pred e) (by omega)).trans hq
  have hA := wd_i3 he (fa (nI p).toNatClampNeg)
  have hC := wd_i3 he (fa (nI p).toNatClampNeg >>> ((2 : Int32) &&& 31))
  by_cases hl : lc ((nI (e + 1) - 1) * 4 + (fa (nI p).toNatClampNeg &&& 3)).toNatClampNeg < lc ((nI (e + 1) - 1) * 4 + ((fa (nI p).toNatClampNeg >>> ((2 : Int32) &&& 31)) &&& 3)).toNatClampNeg
  · refine wd_thru (wd_go (e := e) (ops := ops) (fa := fa) (fb := fb) (cn := nI p) (lc := lc) hs he ho h0 hf hg hb hc hu (fb (nI p).toNatClampNeg)) (fun post h => ?_) (fun post h => ?_)
    · exact ⟨hi, nm_r (e' := nI p) hr ⟨hpi, nm_r (e' := 6) hw (br_f (by decide) <| br_f (by decide) <| br_f (by decide) <| br_t rfl <| nm_e ⟨hpi, nm_e ⟨hA, nm_e ⟨hC, nm_e ⟨hpi, nm_r (e' := 6) hw (br_f (by decide) <| br_t rfl <| br_t hl <| br_f (by decide) ⟨hpi, h⟩)⟩⟩⟩⟩)⟩⟩
    · exact ⟨hpi, nm_r (e' := 6) hw ⟨hpi, nm_e ⟨hpi, nm_e (nm_e (nm_e (nm_e (nm_e (br_f (by decide) <| br_f (by decide) <| br_f (by decide) <| br_f (by decide) <| br_f (by decide) <| br_f (by decide) <| br_t rfl ⟨hA, hC, br_f (Int32.not_le.mpr hl) h⟩)))))⟩⟩⟩
  · refine wd_thru (wd_go (e := e) (ops := ops) (fa := fa) (fb := fb) (cn := nI p) (lc := lc) hs he ho h0 hf hg hb hc hu (nI p + 1)) (fun post h => ?_) (fun post h => ?_)
    · exact ⟨hi, nm_r (e' := nI p) hr ⟨hpi, nm_r (e' := 6) hw (br_f (by decide) <| br_f (by decide) <| br_f (by decide) <| br_t rfl <| nm_e ⟨hpi, nm_e ⟨hA, nm_e ⟨hC, nm_e ⟨hpi, nm_r (e' := 6) hw (br_f (by decide) <| br_t rfl <| br_f hl <| br_f (by decide) <| br_t rfl h)⟩⟩⟩⟩)⟩⟩
    · exact ⟨hpi, nm_r (e' := 6) hw ⟨hpi, nm_e ⟨hpi, nm_e (nm_e (nm_e (nm_e (nm_e (br_f (by decide) <| br_f (by decide) <| br_f (by decide) <| br_f (by decide) <| br_f (by decide) <| br_f (by decide) <| br_t rfl ⟨hA, hC, br_t (Int32.not_lt.mp hl) h⟩)))))⟩⟩⟩
theorem wd_s7 {B e p : Nat} (hs : s ≤ 20) (hp : p < s) (he : e < 6) (ho : o ≤ B) (h0 : st ≠ 0) (hf : ∀ i, i < e → cs i = go i) (hq : cs e = nI p) (hg : wd_Ge ge) (hb : wd_Bk bst bsk sk) (hc : bc = nI (wd_cnt sk 20)) (hu : wd_Ou o lo la) (hw : ops (nI p).toNatClampNeg = 7) : wd_B (B) (fun post => wpX_carryOutNext post (nI s, bc, nI (e + 1), nI o, st, ops, fa, fb, bst, bsk, cs, ge, lc, lo)) (fun post => wpY_carryOut post (nI s, st, nI (e + 1), nI p, nI o, ops, fa, fb, sk, lc, go, ge, la)) := by
  have hpi : vp_in (nI p) 20 := vp_in_nI (by omega) (by omega)
  have hi : vp_in (nI (e + 1) - 1) 6 := by rw [nI_pred]; exact vp_in_nI he (by omega)
  have hr : cs (nI (e + 1) - 1).toNatClampNeg = nI p := (wd_rd (nI_pred e) (by omega)).trans hq
  have hA := wd_i3 he (fa (nI p).toNatClampNeg)
  have hC := wd_i3 he (fa (nI p).toNatClampNeg >>> ((2 : Int32) &&& 31))
  by_cases hl : lc ((nI (e + 1) - 1) * 4 + (fa (nI p).toNatClampNeg &&& 3)).toNatClampNeg = 0
  · refine wd_thru (wd_go (e := e) (ops := ops) (fa := fa) (fb := fb) (cn := nI p) (lc := lc) hs he ho h0 hf hg hb hc hu (fb (nI p).toNatClampNeg)) (fun post h => ?_) (fun post h => ?_)
    · exact ⟨hi, nm_r (e' := nI p) hr ⟨hpi, nm_r (e' := 7) hw (br_f (by decide) <| br_f (by decide) <| br_f (by decide) <| br_f (by decide) <| br_t rfl <| nm_e ⟨hpi, nm_e ⟨hA, nm_e ⟨hC, nm_e ⟨hpi, nm_r (e' := 7) hw (br_f (by decide) <| br_f (by decide) <| br_t rfl <| br_t hl <| br_f (by decide) ⟨hpi, h⟩)⟩⟩⟩⟩)⟩⟩
    · exact ⟨hpi, nm_r (e' := 7) hw ⟨hpi, nm_e ⟨hpi, nm_e (nm_e (nm_e (nm_e (nm_e (br_f (by decide) <| br_f (by decide) <| br_f (by decide) <| br_f (by decide) <| br_f (by decide) <| br_f (by decide) <| br_f (by decide) <| br_t rfl ⟨hA, br_t hl h⟩)))))⟩⟩⟩
  · refine wd_thru (wd_go (e := e) (ops := ops) (fa := fa) (fb := fb) (cn := nI p) (lc := lc) hs he ho h0 hf hg hb hc hu (nI p + 1)) (fun post h => ?_) (fun post h => ?_)
    · exact ⟨hi, nm_r (e' := nI p) hr ⟨hpi, nm_r (e' := 7) hw (br_f (by decide) <| br_f (by decide) <| br_f (by decide) <| br_f (by decide) <| br_t rfl <| nm_e ⟨hpi, nm_e ⟨hA, nm_e ⟨hC, nm_e ⟨hpi, nm_r (e' := 7) hw (br_f (by decide) <| br_f (by decide) <| br_t rfl <| br_f hl <| br_t rfl h)⟩⟩⟩⟩)⟩⟩
    · exact ⟨hpi, nm_r (e' := 7) hw ⟨hpi, nm_e ⟨hpi, nm_e (nm_e (nm_e (nm_e (nm_e (br_f (by decide) <| br_f (by decide) <| br_f (by decide) <| br_f (by decide) <| br_f (by decide) <| br_f (by decide) <| br_f (by decide) <| br_t rfl ⟨hA, br_f hl h⟩)))))⟩⟩⟩
end
end
section
section
variable {s d o : Nat} {st bc cn : Int32} {ops fa fb bst bsk cs ge lc lo sk go la : Nat → Int32}
-- CALL
theorem wd_s8 {B e p : Nat} (hs : s ≤ 20) (hp : p < s) (he : e < 6) (ho : o ≤ B) (h0 : st ≠ 0) (hf : ∀ i, i < e → cs i = go i) (hq : cs e = nI p) (hg : wd_Ge ge) (hb : wd_Bk bst bsk sk) (hc : bc = nI (wd_cnt sk 20)) (hu : wd_Ou o lo la) (hw : ops (nI p).toNatClampNeg = 8) : wd_B (B) (fun post => wpX_carryOutNext post (nI s, bc, nI (e + 1), nI o, st, ops, fa, fb, bst, bsk, cs, ge, lc, lo)) (fun post => wpY_carryOut post (nI s, st, nI (e + 1), nI p, nI o, ops, fa, fb, sk, lc, go, ge, la)) := by
  have hpi : vp_in (nI p) 20 := vp_in_nI (by omega) (by omega)
  have hi : vp_in (nI (e + 1) - 1) 6 := by rw [nI_pred]; exact vp_in_nI he (by omega)
  have hr : cs (nI (e + 1) - 1).toNatClampNeg = nI p := (wd_rd (nI_pred e) (by omega)).trans hq
  have hA := wd_i3 he (fa (nI p).toNatClampNeg)
  by_cases h5 : e = 5
  · subst h5
    refine ⟨(nI s, bc, nI (5 + 1), nI o, 6, ops, fa, fb, bst, bsk, cs, ge, lc, lo), (nI s, 6, nI (5 + 1), nI p, nI o, ops, fa, fb, sk, lc, go, ge, la), ⟨s, 6, o, 6, bc, nI p, ops, fa, fb, bst, bsk, cs, ge, lc, lo, sk, go, la, rfl, rfl, ⟨hs, by omega, ho, fun _ => by omega, fun _ _ z => absurd rfl z, ⟨fun i h => hf i (by omega), fun i h => by cases h; exact hq⟩, hg, hb, hc, hu⟩, by decide⟩, fun post h => ?_, fun post h => ?_⟩
    · exact ⟨hi, nm_r (e' := nI p) hr ⟨hpi, nm_r (e' := 8) hw (br_t rfl <| br_f (by decide) h)⟩⟩
    · exact ⟨hpi, nm_r (e' := 8) hw ⟨hpi, nm_e ⟨hpi, nm_e (nm_e (nm_e (nm_e (nm_e (br_f (by decide) <| br_f (by decide) <| br_f (by decide) <| br_f (by decide) <| br_f (by decide) <| br_f (by decide) <| br_f (by decide) <| br_f (by decide) <| br_t rfl <| br_t (by decide) h)))))⟩⟩⟩
  · have hlt : nI (e + 1) < 6 := nI_lt (b := 6) (by omega) (by decide)
    have hne : ¬ nI (e + 1) = 6 := fun z => by
      have := (nI_eq (a := e + 1) (b := 6) (by omega) (by decide)).mp z
      omega
    have q4 : (nI (e + 1) - 1) * 4 + 4 = nI ((e + 1) * 4) := by rw [wd_base]; exact (nI_add (e * 4) 4).trans (congrArg nI (by omega))
    have q5 : (nI (e + 1) - 1) * 4 + 5 = nI ((e + 1) * 4 + 1) := by rw [wd_base]; exact (nI_add (e * 4) 5).trans (congrArg nI (by omega))
    have q6 : (nI (e + 1) - 1) * 4 + 6 = nI ((e + 1) * 4 + 2) := by rw [wd_base]; exact (nI_add (e * 4) 6).trans (congrArg nI (by omega))
    have q7 : (nI (e + 1) - 1) * 4 + 7 = nI ((e + 1) * 4 + 3) := by rw [wd_base]; exact (nI_add (e * 4) 7).trans (congrArg nI (by omega))
    have hg' : wd_Ge (upd ge (nI (e + 1) - 1).toNatClampNeg (fa (nI p).toNatClampNeg &&& 3)) := fun i => by
      by_cases z : i = (nI (e + 1) - 1).toNatClampNeg
      · exact ⟨wd_m3 (fa (nI p).toNatClampNeg), wd_m3lt _, by rw [z, pk_us, wd_and3]⟩
      · rw [pk_un z]; exact hg i
    have hf' : ∀ i, i < e + 1 → upd (upd cs e (nI p + 1)) (e + 1) (fb (nI p).toNatClampNeg) i = upd go e (nI p + 1) i := fun i hi => by
      rw [pk_un (by omega)]
      by_cases z : i = e
      · rw [z, pk_us, pk_us]
      · rw [pk_un z, pk_un z]; exact hf i (by omega)
    refine wd_thru (wd_go (e := e + 1) (ops := ops) (fa := fa) (fb := fb) (cn := nI p)
      (lc := upd (upd (upd (upd lc ((e + 1) * 4) (lc ((nI (e + 1) - 1) * 4 + (fa (nI p).toNatClampNeg &&& 3)).toNatClampNeg)) ((e + 1) * 4 + 1) 0) ((e + 1) * 4 + 2) 0) ((e + 1) * 4 + 3) 0) hs (by omega) ho h0 hf' hg' hb hc hu (fb (nI p).toNatClampNeg)) (fun post h => ?_) (fun post h => ?_)
    · exact ⟨hi, nm_r (e' := nI p) hr ⟨hpi, nm_r (e' := 8) hw (br_t rfl <| br_t hlt <| nm_e ⟨hpi, nm_e ⟨hi, nm_r (e' := upd cs e (nI p + 1)) (wd_up (nI_pred e) (by omega) rfl) ⟨hi, nm_e ⟨hpi, nm_e ⟨hA, wd_add (by omega) h⟩⟩⟩⟩⟩)⟩⟩
    · exact ⟨hpi, nm_r (e' := 8) hw ⟨hpi, nm_e ⟨hpi, nm_e (nm_e (nm_e (nm_e (nm_e (br_f (by decide) <| br_f (by decide) <| br_f (by decide) <| br_f (by decide) <| br_f (by decide) <| br_f (by decide) <| br_f (by decide) <| br_f (by decide) <| br_t rfl <| br_f hne ⟨hi, nm_r (e' := upd go e (nI p + 1)) (wd_up (nI_pred e) (by omega) rfl) ⟨hi, nm_e ⟨hA, pk_in ((e + 1) * 4) 24 (by omega) q4, nm_r (wd_up q4 (by omega) rfl) ⟨pk_in ((e + 1) * 4 + 1) 24 (by omega) q5, nm_r (wd_up q5 (by omega) rfl) ⟨pk_in ((e + 1) * 4 + 2) 24 (by omega) q6, nm_r (wd_up q6 (by omega) rfl) ⟨pk_in ((e + 1) * 4 + 3) 24 (by omega) q7, nm_r (wd_up q7 (by omega) rfl) (nm_r (nI_1 (e + 1)) h)⟩⟩⟩⟩⟩⟩)))))⟩⟩⟩
-- RETURN
theorem wd_s9 {B e p : Nat} (hs : s ≤ 20) (hp : p < s) (he : e < 6) (ho : o ≤ B) (h0 : st ≠ 0) (hf : ∀ i, i < e → cs i = go i) (hq : cs e = nI p) (hg : wd_Ge ge) (hb : wd_Bk bst bsk sk) (hc : bc = nI (wd_cnt sk 20)) (hu : wd_Ou o lo la) (hw : ops (nI p).toNatClampNeg = 9) : wd_B (B) (fun post => wpX_carryOutNext post (nI s, bc, nI (e + 1), nI o, st, ops, fa, fb, bst, bsk, cs, ge, lc, lo)) (fun post => wpY_carryOut post (nI s, st, nI (e + 1), nI p, nI o, ops, fa, fb, sk, lc, go, ge, la)) := by
  have hpi : vp_in (nI p) 20 := vp_in_nI (by omega) (by omega)
  have hi : vp_in (nI (e + 1) - 1) 6 := by rw [nI_pred]; exact vp_in_nI he (by omega)
  have hr : cs (nI (e + 1) - 1).toNatClampNeg = nI p := (wd_rd (nI_pred e) (by omega)).trans hq
  cases e with
  | zero =>
    refine ⟨(nI s, bc, nI (0 + 1), nI o, 5, ops, fa, fb, bst, bsk, cs, ge, lc, lo), (nI s, 5, nI (0 + 1), nI p, nI o, ops, fa, fb, sk, lc, go, ge, la), ⟨s, 1, o, 5, bc, nI p, ops, fa, fb, bst, bsk, cs, ge, lc, lo, sk, go, la, rfl, rfl, ⟨hs, by omega, ho, fun _ => by omega, fun _ z _ => absurd rfl z, ⟨fun i h => hf i (by omega), fun i h => by cases h; exact hq⟩, hg, hb, hc, hu⟩, by decide⟩, fun post h => ?_, fun post h => ?_⟩
    · exact ⟨hi, nm_r (e' := nI p) hr ⟨hpi, nm_r (e' := 9) hw (br_f (by decide) <| br_t rfl <| br_t (by decide) h)⟩⟩
    · exact ⟨hpi, nm_r (e' := 9) hw ⟨hpi, nm_e ⟨hpi, nm_e (nm_e (nm_e (nm_e (nm_e (br_f (by decide) <| br_f (by decide) <| br_f (by decide) <| br_f (by decide) <| br_f (by decide) <| br_f (by decide) <| br_f (by decide) <| br_f (by decide) <| br_f (by decide) <| br_t rfl <| br_t (by decide) h)))))⟩⟩⟩
  | succ f =>
    have hne : ¬ nI (f + 1 + 1) = 1 := fun z => by
      have := (nI_eq (a := f + 1 + 1) (b := 1) (by omega) (by decide)).mp z
      omega
    obtain ⟨j, hj, ej⟩ := hg f
    have hX0 : nI f * 4 + ge (nI f).toNatClampNeg = nI (f * 4 + j) := by rw [nI_clamp (by omega), ej, wd_mul4, nI_add]
    have hY0 : (nI (f + 1 + 1) - 1) * 4 - 4 + ge (nI (f + 1) - 1).toNatClampNeg = nI (f * 4 + j) := by
      rw [nI_pred f, nI_clamp (by omega), ej, wd_base, show nI ((f + 1) * 4) - 4 = nI (f * 4) from (pk_sub (a := (f + 1) * 4) (b := 4) (by omega)).trans (congrArg nI (by omega)), nI_add]
    have i0 : vp_in ((nI (f + 1 + 1) - 1) * 4) 24 := by rw [wd_base]; exact vp_in_nI (by omega) (by omega)
    have i1 : vp_in (nI f) 6 := vp_in_nI (by omega) (by omega)
    have i2 : vp_in (nI (f + 1) - 1) 6 := by rw [nI_pred]; exact i1
    have hgo : go (nI (f + 1) - 1).toNatClampNeg = cs (nI f).toNatClampNeg := by rw [nI_pred, nI_clamp (by omega)]; exact (hf f (by omega)).symm
    refine wd_thru (wd_go (e := f) (ops := ops) (fa := fa) (fb := fb) (cn := nI p)
      (lc := upd lc (f * 4 + j) (lc ((nI (f + 1 + 1) - 1) * 4).toNatClampNeg)) hs (by omega) ho h0 (fun i hi => hf i (by omega)) hg hb hc hu (cs (nI f).toNatClampNeg)) (fun post h => ?_) (fun post h => ?_)
    · exact ⟨hi, nm_r (e' := nI p) hr ⟨hpi, nm_r (e' := 9) hw (br_f (by decide) <| br_t rfl <| br_f hne ⟨i0, nm_e (nm_r (e' := nI (f + 1)) (nI_pred (f + 1)) (nm_r (e' := nI f) (nI_pred f) ⟨i1, pk_in (f * 4 + j) 24 (by omega) hX0, nm_r (wd_up hX0 (by omega) rfl) ⟨i1, h⟩⟩))⟩)⟩⟩
    · exact ⟨hpi, nm_r (e' := 9) hw ⟨hpi, nm_e ⟨hpi, nm_e (nm_e (nm_e (nm_e (nm_e (br_f (by decide) <| br_f (by decide) <| br_f (by decide) <| br_f (by decide) <| br_f (by decide) <| br_f (by decide) <| br_f (by decide) <| br_f (by decide) <| br_f (by decide) <| br_t rfl <| br_f hne (nm_r (e' := nI (f + 1)) (nI_pred (f + 1)) ⟨i2, i0, pk_in (f * 4 + j) 24 (by omega) hY0, nm_r (wd_up hY0 (by omega) rfl) ⟨i2, nm_r hgo h⟩⟩))))))⟩⟩⟩
-- OUT
def wd_shf : Nat → (Nat → Int32) → Nat → Int32
  | 0, a => a
  | i + 1, a => wd_shf i (upd a (i + 1) (a i))
theorem wd_shf_hi : ∀ (i : Nat) (a : Nat → Int32) (b : Nat), i < b → wd_shf i a b = a b
  | 0, _, _, _ => rfl
  | i + 1, a, b, h => (wd_shf_hi i _ b (by omega)).trans (pk_un (by omega))
theorem wd_shf_0 : ∀ (i : Nat) (a : Nat → Int32), wd_shf i a 0 = a 0
  | 0, _ => rfl
  | i + 1, a => (wd_shf_0 i _).trans (pk_un (by omega))
theorem wd_shf_lo : ∀ (i : Nat) (a : Nat → Int32) (b : Nat), b < i → wd_shf i a (b + 1) = a b
  | 0, _, _, h => absurd h (by omega)
  | i + 1, a, b, h => by
    show wd_shf i (upd a (i + 1) (a i)) (b + 1) = a b
    by_cases z : b = i
    · rw [z, wd_shf_hi i _ (i + 1) (by omega), pk_us]
    · rw [wd_shf_lo i _ b (by omega), pk_un (by omega)]
theorem wd_outL {post : SY → Prop} {x : Int32} : ∀ (i : Nat) (a : Nat → Int32), i ≤ 7 → post (nI s, st, nI d, cn, nI (o + 1), ops, fa, fb, sk, lc, go, ge, upd (wd_shf i a) 0 x) → wY_out_3 post x (nI s) st (nI d) cn (nI o) (i + 1) (nI i) ops fa fb sk lc go ge a
  | 0, a, _, h => br_t (by decide) (nm_e (nm_r (nI_1 o) h))
  | i + 1, a, hi, h => by
    have i1 : vp_in (nI (i + 1) - 1) 8 := by rw [nI_pred]; exact vp_in_nI (by omega) (by omega)
    exact br_f (nI_nle (by omega) (by omega)) ⟨i1, vp_in_nI (by omega) (by omega), nm_r (wd_up rfl (by omega) (wd_rd (nI_pred i) (by omega))) (nm_r (pk_m1 i) (wd_outL i _ (by omega) h))⟩
theorem wd_ouS {x : Int32} (h : wd_Ou o lo la) : wd_Ou (o + 1) (upd lo (o % 8) x) (upd (wd_shf 7 la) 0 x) := by
  intro b hb ho
  cases b with
  | zero => rw [show (o + 1 - 1 - 0) % 8 = o % 8 from by omega, pk_us, pk_us]
  | succ c =>
    rw [pk_un (show (o + 1 - 1 - (c + 1)) % 8 ≠ o % 8 by omega), pk_un (by omega), wd_shf_lo 7 la c (by omega), show o + 1 - 1 - (c + 1) = o - 1 - c from by omega]
    exact h c (by omega) (by omega)
theorem wd_s10 {B e p : Nat} (hs : s ≤ 20) (hp : p < s) (he : e < 6) (ho : o ≤ B) (h0 : st ≠ 0) (hf : ∀ i, i < e → cs i = go i) (hq : cs e = nI p) (hg : wd_Ge ge) (hb : wd_Bk bst bsk sk) (hc : bc = nI (wd_cnt sk 20)) (hu : wd_Ou o lo la) (hB31 : B < 2 ^ 30) {w : Int32} (hw : ops (nI p).toNatClampNeg = w) (w0 : ¬ w = 0) (w1 : ¬ w = 1) (w2 : ¬ w = 2) (w3 : ¬ w = 3) (w4 : ¬ w = 4) (w5 : ¬ w = 5) (w6 : ¬ w = 6) (w7 : ¬ w = 7) (w8 : ¬ w = 8) (w9 : ¬ w = 9) : wd_B (B + 1) (fun post => wpX_carryOutNext post (nI s, bc, nI (e + 1), nI o, st, ops, fa, fb, bst, bsk, cs, ge, lc, lo)) (fun post => wpY_carryOut post (nI s, st, nI (e + 1), nI p, nI o, ops, fa, fb, sk, lc, go, ge, la)) := by
  have hpi : vp_in (nI p) 20 := vp_in_nI (by omega) (by omega)
  have hi : vp_in (nI (e + 1) - 1) 6 := by rw [nI_pred]; exact vp_in_nI he (by omega)
  have hr : cs (nI (e + 1) - 1).toNatClampNeg = nI p := (wd_rd (nI_pred e) (by omega)).trans hq
  have hA := wd_i3 he (fa (nI p).toNatClampNeg)
  have hB := wd_i3 he (fb (nI p).toNatClampNeg)
  have hm : vp_in (nI o &&& 7) 8 := pk_in (o % 8) 8 (by omega) (wd_and7 (by omega))
  refine wd_thru (wd_go (e := e) (ops := ops) (fa := fa) (fb := fb) (cn := nI p) (lc := lc) hs he (Nat.succ_le_succ ho) h0 hf hg hb hc (wd_ouS hu (x := lc ((nI (e + 1) - 1) * 4 + (fa (nI p).toNatClampNeg &&& 3)).toNatClampNeg)) (nI p + 1)) (fun post h => ?_) (fun post h => ?_)
  · by_cases hn : w < 0
    · exact ⟨hi, nm_r (e' := nI p) hr ⟨hpi, nm_r (e' := w) hw (br_f w8 <| br_f w9 <| br_f w5 <| br_f w6 <| br_f w7 <| nm_e ⟨hpi, nm_e ⟨hpi, hB, nm_e ⟨hpi, nm_r (e' := w) hw (br_t hn ⟨hA, hm, nm_r (wd_up (wd_and7 (by omega)) (by omega) rfl) (nm_r (nI_1 o) h)⟩)⟩⟩⟩)⟩⟩
    · have h4 : (4 : Int32) < w := by
        obtain ⟨j, hj, rfl⟩ := nI_of hn
        by_cases z : 4 < j
        · exact nI_lt (a := 4) z hj
        · exfalso
          have : j = 0 ∨ j = 1 ∨ j = 2 ∨ j = 3 ∨ j = 4 := by omega
          rcases this with rfl | rfl | rfl | rfl | rfl
          · exact w0 rfl
          · exact w1 rfl
          · exact w2 rfl
          · exact w3 rfl
          · exact w4 rfl
      exact ⟨hi, nm_r (e' := nI p) hr ⟨hpi, nm_r (e' := w) hw (br_f w8 <| br_f w9 <| br_f w5 <| br_f w6 <| br_f w7 <| nm_e ⟨hpi, nm_e ⟨hpi, hB, nm_e ⟨hpi, nm_r (e' := w) hw (br_f hn <| br_t h4 ⟨hA, hm, nm_r (wd_up (wd_and7 (by omega)) (by omega) rfl) (nm_r (nI_1 o) h)⟩)⟩⟩⟩)⟩⟩
  · exact ⟨hpi, nm_r (e' := w) hw ⟨hpi, nm_e ⟨hpi, nm_e (nm_e (nm_e (nm_e (nm_e (br_f w0 <| br_f w1 <| br_f w2 <| br_f w3 <| br_f w4 <| br_f w5 <| br_f w6 <| br_f w7 <| br_f w8 <| br_f w9 ⟨hA, 7 + 1, wd_outL 7 la (by omega) h⟩)))))⟩⟩⟩
-- a step
theorem wd_Sm {B C : Nat} (hBC : B ≤ C) {u : SX} {v : SY} (h : wd_S B u v) : wd_S C u v := by
  obtain ⟨s, d, o, st, bc, cn, ops, fa, fb, bst, bsk, cs, ge, lc, lo, sk, go, la, e1, e2, F, n⟩ := h
  exact ⟨s, d, o, st, bc, cn, ops, fa, fb, bst, bsk, cs, ge, lc, lo, sk, go, la, e1, e2, wd_Fm hBC F, n⟩
theorem wd_Bm {B C : Nat} (hBC : B ≤ C) {PX : (SX → Prop) → Prop} {PY : (SY → Prop) → Prop} (h : wd_B B PX PY) : wd_B C PX PY := by
  obtain ⟨u, v, R, a, b⟩ := h
  exact ⟨u, v, wd_Sm hBC R, a, b⟩
theorem wd_step {B e p : Nat} (hs : s ≤ 20) (hp : p < s) (he : e < 6) (ho : o ≤ B) (h0 : st ≠ 0) (hf : ∀ i, i < e → cs i = go i) (hq : cs e = nI p) (hg : wd_Ge ge) (hb : wd_Bk bst bsk sk) (hc : bc = nI (wd_cnt sk 20)) (hu : wd_Ou o lo la) (hB31 : B < 2 ^ 30) : wd_B (B + 1) (fun post => wpX_carryOutNext post (nI s, bc, nI (e + 1), nI o, st, ops, fa, fb, bst, bsk, cs, ge, lc, lo)) (fun post => wpY_carryOut post (nI s, st, nI (e + 1), nI p, nI o, ops, fa, fb, sk, lc, go, ge, la)) := by
  by_cases w0 : ops (nI p).toNatClampNeg = 0
  · exact wd_Bm (Nat.le_succ B) (wd_s0 hs hp he ho h0 hf hq hg hb hc hu w0)
  by_cases w1 : ops (nI p).toNatClampNeg = 1
  · exact wd_Bm (Nat.le_succ B) (wd_s1 hs hp he ho h0 hf hq hg hb hc hu w1)
  by_cases w2 : ops (nI p).toNatClampNeg = 2
  · exact wd_Bm (Nat.le_succ B) (wd_s2 hs hp he ho h0 hf hq hg hb hc hu w2)
  by_cases w3 : ops (nI p).toNatClampNeg = 3
  · exact wd_Bm (Nat.le_succ B) (wd_s3 hs hp he ho h0 hf hq hg hb hc hu w3)
  by_cases w4 : ops (nI p).toNatClampNeg = 4
  · exact wd_Bm (Nat.le_succ B) (wd_s4 hs hp he ho h0 hf hq hg hb hc hu w4)
  by_cases w5 : ops (nI p).toNatClampNeg = 5
  · exact wd_Bm (Nat.le_succ B) (wd_s5 hs hp he ho h0 hf hq hg hb hc hu w5)
  by_cases w6 : ops (nI p).toNatClampNeg = 6
  · exact wd_Bm (Nat.le_succ B) (wd_s6 hs hp he ho h0 hf hq hg hb hc hu w6)
  by_cases w7 : ops (nI p).toNatClampNeg = 7
  · exact wd_Bm (Nat.le_succ B) (wd_s7 hs hp he ho h0 hf hq hg hb hc hu w7)
  by_cases w8 : ops (nI p).toNatClampNeg = 8
  · exact wd_Bm (Nat.le_succ B) (wd_s8 hs hp he ho h0 hf hq hg hb hc hu w8)
  by_cases w9 : ops (nI p).toNatClampNeg = 9
  · exact wd_Bm (Nat.le_succ B) (wd_s9 hs hp he ho h0 hf hq hg hb hc hu w9)
  exact wd_s10 hs hp he ho h0 hf hq hg hb hc hu hB31 rfl w0 w1 w2 w3 w4 w5 w6 w7 w8 w9
end
end
section
section
-- the count of the breaks
theorem wd_cnt_eq (f g : Nat → Int32) : ∀ n, (∀ i, i < n → (f i < 0 ↔ g i < 0)) → wd_cnt f n = wd_cnt g n
  | 0, _ => rfl
  | n + 1, h => by
    show wd_cnt f n + (if f n < 0 then 0 else 1) = wd_cnt g n + (if g n < 0 then 0 else 1)
    rw [wd_cnt_eq f g n (fun i hi => h i (by omega))]
    have := h n (by omega)
    by_cases z : f n < 0
    · rw [if_pos z, if_pos (this.mp z)]
    · rw [if_neg z, if_neg (fun q => z (this.mpr q))]
theorem wd_cnt_out (f : Nat → Int32) (p : Nat) (v : Int32) (n : Nat) (h : n ≤ p) : wd_cnt (upd f p v) n = wd_cnt f n :=
  wd_cnt_eq _ _ n (fun i hi => by rw [pk_un (by omega)])
theorem wd_cnt_same (f : Nat → Int32) (p : Nat) (v : Int32) (n : Nat) (h : ¬ f p < 0) (hv : ¬ v < 0) : wd_cnt (upd f p v) n = wd_cnt f n :=
  wd_cnt_eq _ _ n (fun i hi => by
    by_cases z : i = p
    · rw [z, pk_us]; exact ⟨fun q => absurd q hv, fun q => absurd q h⟩
    · rw [pk_un z])
theorem wd_cnt_up {f : Nat → Int32} {p : Nat} {v : Int32} (h : f p < 0) (hv : ¬ v < 0) : ∀ n, p < n → wd_cnt (upd f p v) n = wd_cnt f n + 1
  | 0, q => absurd q (by omega)
  | n + 1, q => by
    show wd_cnt (upd f p v) n + (if upd f p v n < 0 then 0 else 1) = wd_cnt f n + (if f n < 0 then 0 else 1) + 1
    by_cases z : n = p
    · subst z
      rw [wd_cnt_out f n v n (by omega), pk_us, if_neg hv, if_pos h]
    · rw [wd_cnt_up h hv n (by omega), pk_un z]
      omega
theorem wd_cnt_dn {f : Nat → Int32} {p : Nat} {v : Int32} (h : ¬ f p < 0) (hv : v < 0) : ∀ n, p < n → wd_cnt (upd f p v) n + 1 = wd_cnt f n
  | 0, q => absurd q (by omega)
  | n + 1, q => by
    show wd_cnt (upd f p v) n + (if upd f p v n < 0 then 0 else 1) + 1 = wd_cnt f n + (if f n < 0 then 0 else 1)
    by_cases z : n = p
    · subst z
      rw [wd_cnt_out f n v n (by omega), pk_us, if_pos hv, if_neg h]
    · rw [← wd_cnt_dn h hv n (by omega), pk_un z]
      omega
end
section
variable {s d o : Nat} {st bc cn : Int32} {ops fa fb bst bsk cs ge lc lo sk go la : Nat → Int32}
theorem wd_hbT {fr oc : Int32} {post : Int32 → Prop} {p : Nat} (hs : s ≤ 20) (hp : p < s) (hb : bst p = 1) (h : post 1) : wpX_hasBreak post (nI s, bc, fr, oc, st, ops, fa, fb, bst, bsk, cs, ge, lc, lo) (nI p) := by
  unfold wpX_hasBreak
  dsimp only
  exact wd_inT hs hp (br_f (by decide) ⟨vp_in_nI (by omega) (by omega), br_f (by rw [nI_clamp (by omega), hb]; decide) h⟩)
theorem wd_hbF {fr oc : Int32} {post : Int32 → Prop} {p : Nat} (hs : s ≤ 20) (hp : p < s) (hb : bst p = 0) (h : post 0) : wpX_hasBreak post (nI s, bc, fr, oc, st, ops, fa, fb, bst, bsk, cs, ge, lc, lo) (nI p) := by
  unfold wpX_hasBreak
  dsimp only
  exact wd_inT hs hp (br_f (by decide) ⟨vp_in_nI (by omega) (by omega), br_t (by rw [nI_clamp (by omega), hb]) h⟩)
theorem wd_hbN {fr oc : Int32} {post : Int32 → Prop} {x : Int32} (hn : wd_no s x) (h : post 0) : wpX_hasBreak post (nI s, bc, fr, oc, st, ops, fa, fb, bst, bsk, cs, ge, lc, lo) x := by
  unfold wpX_hasBreak
  dsimp only
  exact wd_inF hn (br_t rfl h)
end
-- the loop from its head, and its tail behind the look at the breaks
def wd_L (g : Int32) (most m n B : Nat) : Prop := ∀ (s e o p : Nat) (st bc : Int32) (ops fa fb bst bsk cs ge lc lo sk go la : Nat → Int32) (hs : s ≤ 20) (hp : p < s) (he : e < 6) (ho : o ≤ B) (h0 : st ≠ 0) (hf : ∀ i, i < e → cs i = go i) (hq : cs e = nI p) (hg : wd_Ge ge) (hb : wd_Bk bst bsk sk) (hc : bc = nI (wd_cnt sk 20)) (hu : wd_Ou o lo la), ∃ (r : Int32) (u : SX) (v : SY), wd_R (B + m + 1) u v ∧ (∀ post : Int32 → SX → Prop, post r u → wX_runCommand_37 post g (nI most) (m + 1 + 1) (nI n) (nI s) bc (nI (e + 1)) (nI o) st ops fa fb bst bsk cs ge lc lo) ∧ (∀ post : Int32 → SY → Prop, post r v → wY_run_54 post g (nI most) (m + 1) (nI n) (nI s) st (nI (e + 1)) (nI p) (nI o) ops fa fb sk lc go ge la)
def wd_T (g : Int32) (most m n B : Nat) : Prop := ∀ (s e o p : Nat) (st bc : Int32) (ops fa fb bst bsk cs ge lc lo sk go la : Nat → Int32) (hs : s ≤ 20) (hp : p < s) (he : e < 6) (ho : o ≤ B) (h0 : st ≠ 0) (hf : ∀ i, i < e → cs i = go i) (hq : cs e = nI p) (hg : wd_Ge ge) (hb : wd_Bk bst bsk sk) (hc : bc = nI (wd_cnt sk 20)) (hu : wd_Ou o lo la), ∃ (r : Int32) (u : SX) (v : SY), wd_R (B + m) u v ∧ (∀ post : Int32 → SX → Prop, post r u → wX_runCommand_37 post g (nI most) (m + 1) (nI (n + 1)) (nI s) bc (nI (e + 1)) (nI o) st ops fa fb bst bsk cs ge lc lo) ∧ (∀ post : Int32 → SY → Prop, post r v → wY_run_154 post (wY_run_54 post g (nI most) m) g (nI most) (nI n) (nI s) st (nI (e + 1)) (nI p) (nI o) ops fa fb sk lc go ge la)
theorem wd_T0 (g : Int32) (n B : Nat) (hn : n ≤ 300) : wd_T g n 0 n B := by
  intro s e o p st bc ops fa fb bst bsk cs ge lc lo sk go la hs hp he ho h0 hf hq hg hb hc hu
  refine ⟨nI n, (nI s, bc, nI (e + 1), nI o, 4, ops, fa, fb, bst, bsk, cs, ge, lc, lo), (nI s, 4, nI (e + 1), nI p, nI o, ops, fa, fb, sk, lc, go, ge, la), ⟨s, e + 1, o, 4, bc, nI p, ops, fa, fb, bst, bsk, cs, ge, lc, lo, sk, go, la, rfl, rfl, ⟨hs, he, ho, fun _ => by omega, fun _ _ _ => ⟨p, hp, rfl⟩, ⟨fun i h => hf i (by omega), fun i h => by cases h; exact hq⟩, hg, hb, hc, hu⟩⟩, fun post h => ?_, fun post h => ?_⟩
  · exact br_t (nI_lt (by omega) (by omega)) h
  · exact br_t rfl h
theorem wd_TS (g : Int32) (most m n B : Nat) (hn : n < most) (hm : most ≤ 300) (L : wd_L g most m (n + 1) B) : wd_T g most (m + 1) n B := by
  intro s e o p st bc ops fa fb bst bsk cs ge lc lo sk go la hs hp he ho h0 hf hq hg hb hc hu
  obtain ⟨r, u, v, R, hX, hY⟩ := L s e o p st bc ops fa fb bst bsk cs ge lc lo sk go la hs hp he ho h0 hf hq hg hb hc hu
  refine ⟨r, u, v, R, fun post h => hX post h, fun post h => ?_⟩
  exact br_f (fun z => by have := (nI_eq (by omega) (by omega)).mp z; omega) (nm_r (nI_1 n) (hY post h))
theorem wd_body (g : Int32) (most m n B : Nat) (hn : n ≤ most) (hm : most ≤ 300) (hB31 : B < 2 ^ 30) (T : wd_T g most m n (B + 1)) : wd_L g most m n B := by
  intro s e o p st bc ops fa fb bst bsk cs ge lc lo sk go la hs hp he ho h0 hf hq hg hb hc hu
  obtain ⟨u', v', ⟨s', d', o', st', bc', cn', ops', fa', fb', bst', bsk', cs', ge', lc', lo', sk', go', la', rfl, rfl, ⟨Fs, Fd, Fo, F1, Fru, Ffr, Fg, Fb, Fc, Fu⟩, n0⟩, hX, hY⟩ := wd_step (ops := ops) (fa := fa) (fb := fb) (lc := lc) hs hp he ho h0 hf hq hg hb hc hu hB31
  have hle : B + 1 ≤ B + m + 1 := by omega
  have k1 : ¬ nI most < nI n := nI_nlt (by omega) (by omega)
  have k2 : ¬ (300 : Int32) < nI n := nI_nlt (a := 300) (by omega) (by decide)
  have hd1 : 1 ≤ d' := F1 n0
  obtain ⟨e', rfl⟩ : ∃ e', d' = e' + 1 := ⟨d' - 1, by omega⟩
  by_cases h5 : st' = 5
  · exact ⟨nI n, _, _, ⟨s', e' + 1, o', st', bc', cn', ops', fa', fb', bst', bsk', cs', ge', lc', lo', sk', go', la', rfl, rfl, ⟨Fs, Fd, Nat.le_trans Fo hle, F1, Fru, Ffr, Fg, Fb, Fc, Fu⟩⟩, fun post h => br_f k1 (hX _ (br_f n0 (br_t h5 (br_t rfl h)))), fun post h => br_f k2 (hY _ (br_t h5 h))⟩
  by_cases h6 : st' = 6
  · exact ⟨nI n, _, _, ⟨s', e' + 1, o', st', bc', cn', ops', fa', fb', bst', bsk', cs', ge', lc', lo', sk', go', la', rfl, rfl, ⟨Fs, Fd, Nat.le_trans Fo hle, F1, Fru, Ffr, Fg, Fb, Fc, Fu⟩⟩, fun post h => br_f k1 (hX _ (br_f n0 (br_f h5 (br_t h6 (br_t rfl h))))), fun post h => br_f k2 (hY _ (br_f h5 (br_t h6 h)))⟩
  obtain ⟨p', hp', rfl⟩ := Fru n0 h5 h6
  have hq' : cs' e' = nI p' := Ffr.2 e' rfl
  have hf' : ∀ i, i < e' → cs' i = go' i := fun i hi => Ffr.1 i (by omega)
  by_cases hgo : g < nI (e' + 1)
  · have hi : vp_in (nI (e' + 1) - 1) 6 := by rw [nI_pred]; exact vp_in_nI (by omega) (by omega)
    have hr : cs' (nI (e' + 1) - 1).toNatClampNeg = nI p' := (wd_rd (nI_pred e') (by omega)).trans hq'
    have hpi : vp_in (nI p') 20 := vp_in_nI (by omega) (by omega)
    have cl : (nI p').toNatClampNeg = p' := nI_clamp (by omega)
    rcases Fb p' (by omega) with ⟨b0, k0⟩ | ⟨b1, j, hj, ej, kj⟩
    · obtain ⟨r, u, v, R, tX, tY⟩ := T s' e' o' p' st' bc' ops' fa' fb' bst' bsk' cs' ge' lc' lo' sk' go' la' Fs hp' (by omega) Fo n0 hf' hq' Fg Fb Fc Fu
      have z0 : ¬ sk' (nI p').toNatClampNeg = 0 := by rw [cl, k0]; decide
      have z1 : sk' (nI p').toNatClampNeg ≤ 0 := by rw [cl, k0]; decide
      refine ⟨r, u, v, wd_Rm (by omega) R, fun post h => br_f k1 (hX _ (br_f n0 (br_f h5 (br_f h6 (br_f (by decide) (br_t hgo ⟨hi, nm_r (e' := nI p') hr (wd_hbF Fs hp' b0 (br_t rfl (br_t rfl (nm_r (nI_1 n) (tX post h)))))⟩)))))), fun post h => br_f k2 (hY _ (br_f h5 (br_f h6 (br_t hgo ⟨hpi, br_f z0 ⟨hpi, br_t z1 (tY post h)⟩⟩))))⟩
    · cases j with
      | zero =>
        have x0 : bsk' (nI p').toNatClampNeg = 0 := by rw [cl, ej]; rfl
        have z0 : sk' (nI p').toNatClampNeg = 0 := by rw [cl, kj]; rfl
        exact ⟨nI n, (nI s', bc', nI (e' + 1), nI o', 3, ops', fa', fb', bst', bsk', cs', ge', lc', lo'), (nI s', 3, nI (e' + 1), nI p', nI o', ops', fa', fb', sk', lc', go', ge', la'), ⟨s', e' + 1, o', 3, bc', nI p', ops', fa', fb', bst', bsk', cs', ge', lc', lo', sk', go', la', rfl, rfl, ⟨Fs, Fd, Nat.le_trans Fo hle, fun _ => hd1, fun _ _ _ => ⟨p', hp', rfl⟩, Ffr, Fg, Fb, Fc, Fu⟩⟩, fun post h => br_f k1 (hX _ (br_f n0 (br_f h5 (br_f h6 (br_f (by decide) (br_t hgo ⟨hi, nm_r (e' := nI p') hr (wd_hbT Fs hp' b1 (br_f (by decide) ⟨hpi, br_t x0 (br_f (by decide) h)⟩))⟩)))))), fun post h => br_f k2 (hY _ (br_f h5 (br_f h6 (br_t hgo ⟨hpi, br_t z0 h⟩))))⟩
      | succ i =>
        have x0 : ¬ bsk' (nI p').toNatClampNeg = 0 := by rw [cl, ej]; exact nI_ne0 (by omega) (by omega)
        have z0 : ¬ sk' (nI p').toNatClampNeg = 0 := by rw [cl, kj]; exact nI_ne0 (by omega) (by omega)
        have z1 : ¬ sk' (nI p').toNatClampNeg ≤ 0 := by rw [cl, kj]; exact nI_nle (by omega) (by omega)
        have Fb' : wd_Bk bst' (upd bsk' p' (nI i)) (upd sk' p' (nI i)) := fun q hq => by
          by_cases z : q = p'
          · rw [z, pk_us, pk_us]; exact Or.inr ⟨b1, i, by omega, rfl, rfl⟩
          · rw [pk_un z, pk_un z]; exact Fb q hq
        have Fc' : bc' = nI (wd_cnt (upd sk' p' (nI i)) 20) := by
          rw [wd_cnt_same sk' p' (nI i) 20 (by rw [kj]; exact nI_pos (by omega)) (nI_pos (by omega))]; exact Fc
        obtain ⟨r, u, v, R, tX, tY⟩ := T s' e' o' p' st' bc' ops' fa' fb' bst' (upd bsk' p' (nI i)) cs' ge' lc' lo' (upd sk' p' (nI i)) go' la' Fs hp' (by omega) Fo n0 hf' hq' Fg Fb' Fc' Fu
        refine ⟨r, u, v, wd_Rm (by omega) R, fun post h => br_f k1 (hX _ (br_f n0 (br_f h5 (br_f h6 (br_f (by decide) (br_t hgo ⟨hi, nm_r (e' := nI p') hr (wd_hbT Fs hp' b1 (br_f (by decide) ⟨hpi, br_f x0 ⟨hpi, hpi, nm_r (e' := upd bsk' p' (nI i)) (wd_up rfl (by omega) (by rw [cl, ej, nI_pred])) (br_t rfl (nm_r (nI_1 n) (tX post h)))⟩⟩))⟩)))))), fun post h => br_f k2 (hY _ (br_f h5 (br_f h6 (br_t hgo ⟨hpi, br_f z0 ⟨hpi, br_f z1 ⟨hpi, hpi, nm_r (e' := upd sk' p' (nI i)) (wd_up rfl (by omega) (by rw [cl, kj, nI_pred])) (tY post h)⟩⟩⟩))))⟩
  · exact ⟨nI n, (nI s', bc', nI (e' + 1), nI o', 2, ops', fa', fb', bst', bsk', cs', ge', lc', lo'), (nI s', 2, nI (e' + 1), nI p', nI o', ops', fa', fb', sk', lc', go', ge', la'), ⟨s', e' + 1, o', 2, bc', nI p', ops', fa', fb', bst', bsk', cs', ge', lc', lo', sk', go', la', rfl, rfl, ⟨Fs, Fd, Nat.le_trans Fo hle, fun _ => hd1, fun _ _ _ => ⟨p', hp', rfl⟩, Ffr, Fg, Fb, Fc, Fu⟩⟩, fun post h => br_f k1 (hX _ (br_f n0 (br_f h5 (br_f h6 (br_f (by decide) (br_f hgo h)))))), fun post h => br_f k2 (hY _ (br_f h5 (br_f h6 (br_f hgo h))))⟩
theorem wd_loop (g : Int32) (most : Nat) (hm : most ≤ 300) : ∀ (m n B : Nat), n + m = most → B + m < 2 ^ 30 → wd_L g most m n B
  | 0, n, B, h, hB => by
    have : n = most := by omega
    subst this
    exact wd_body g n 0 n B (by omega) hm (by omega) (wd_T0 g n (B + 1) hm)
  | m + 1, n, B, h, hB => wd_body g most (m + 1) n B (by omega) hm (by omega) (wd_TS g most m n (B + 1) (by omega) hm (wd_loop g most hm m (n + 1) (B + 1) (by omega) (by omega)))
end
section
theorem i_vc_state {k : Nat} {u : SX} {v : SY} (I : i_Rel k u v) (hk : k + 4 ≤ 2048) : wpX_state (fun r => wpY_state (fun r' => r' = r ∧ i_Rel (k + 4) u v) v) u := by
  have I' := i_up I
  obtain ⟨s, d, o, st, bc, cn, ops, fa, fb, bst, bsk, cs, ge, lc, lo, sk, go, la, rfl, rfl, ⟨Fs, Fd, Fo, F1, Fru, Ffr, Fg, Fb, Fc, Fu⟩⟩ := I
  exact ⟨rfl, I'⟩
theorem i_vc_depth {k : Nat} {u : SX} {v : SY} (I : i_Rel k u v) (hk : k + 4 ≤ 2048) : wpX_depth (fun r => wpY_depth (fun r' => r' = r ∧ i_Rel (k + 4) u v) v) u := by
  have I' := i_up I
  obtain ⟨s, d, o, st, bc, cn, ops, fa, fb, bst, bsk, cs, ge, lc, lo, sk, go, la, rfl, rfl, ⟨Fs, Fd, Fo, F1, Fru, Ffr, Fg, Fb, Fc, Fu⟩⟩ := I
  exact ⟨rfl, I'⟩
theorem i_vc_outputs {k : Nat} {u : SX} {v : SY} (I : i_Rel k u v) (hk : k + 4 ≤ 2048) : wpX_outputs (fun r => wpY_outputs (fun r' => r' = r ∧ i_Rel (k + 4) u v) v) u := by
  have I' := i_up I
  obtain ⟨s, d, o, st, bc, cn, ops, fa, fb, bst, bsk, cs, ge, lc, lo, sk, go, la, rfl, rfl, ⟨Fs, Fd, Fo, F1, Fru, Ffr, Fg, Fb, Fc, Fu⟩⟩ := I
  exact ⟨rfl, I'⟩
theorem i_vc_counter {k : Nat} {u : SX} {v : SY} (I : i_Rel k u v) (hk : k + 4 ≤ 2048) (v1 : Int32) : wpX_counter (fun r => wpY_counter (fun r' => r' = r ∧ i_Rel (k + 4) u v) v v1) u v1 := by
  have I' := i_up I
  obtain ⟨s, d, o, st, bc, cn, ops, fa, fb, bst, bsk, cs, ge, lc, lo, sk, go, la, rfl, rfl, ⟨Fs, Fd, Fo, F1, Fru, Ffr, Fg, Fb, Fc, Fu⟩⟩ := I
  unfold wpX_counter
  dsimp only
  by_cases h0 : v1 < 0
  · exact br_t h0 (br_t rfl (br_t h0 ⟨rfl, I'⟩))
  · obtain ⟨j, hj, rfl⟩ := nI_of h0
    by_cases hd : j < d
    · obtain ⟨e, rfl⟩ : ∃ e, d = e + 1 := ⟨d - 1, by omega⟩
      have q : nI (e + 1) - 1 - nI j = nI (e - j) := by rw [nI_pred, pk_sub (by omega)]
      have i0 : vp_in (nI (e + 1) - 1 - nI j) 6 := pk_in (e - j) 6 (by omega) q
      have cl : (nI (e + 1) - 1 - nI j).toNatClampNeg = e - j := by rw [q, nI_clamp (by omega)]
      refine br_f h0 (br_f (nI_ge hd (by omega)) (br_f (by decide) ⟨i0, br_f h0 (br_t (nI_lt hd (by omega)) ?_)⟩))
      by_cases z : j = 0
      · subst z
        refine br_t rfl ⟨?_, I'⟩
        rw [cl]; exact (Ffr.2 e rfl).symm
      · refine br_f (nI_ne0 (by omega) hj) ⟨i0, ?_, I'⟩
        rw [cl]; exact (Ffr.1 (e - j) (by omega)).symm
    · exact br_f h0 (br_t (nI_le (by omega) hj) (br_t rfl (br_f h0 (br_f (nI_nlt (by omega) hj) ⟨rfl, I'⟩))))
theorem i_vc_local {k : Nat} {u : SX} {v : SY} (I : i_Rel k u v) (hk : k + 4 ≤ 2048) (v1 : Int32) (v2 : Int32) : wpX_local (fun r => wpY_local (fun r' => r' = r ∧ i_Rel (k + 4) u v) v v1 v2) u v1 v2 := by
  have I' := i_up I
  obtain ⟨s, d, o, st, bc, cn, ops, fa, fb, bst, bsk, cs, ge, lc, lo, sk, go, la, rfl, rfl, ⟨Fs, Fd, Fo, F1, Fru, Ffr, Fg, Fb, Fc, Fu⟩⟩ := I
  unfold wpX_local
  dsimp only
  by_cases h0 : v1 < 0
  · exact br_t h0 (br_t rfl (br_t h0 ⟨rfl, I'⟩))
  · obtain ⟨j, hj, rfl⟩ := nI_of h0
    by_cases hd : j < d
    · obtain ⟨e, rfl⟩ : ∃ e, d = e + 1 := ⟨d - 1, by omega⟩
      have hdl : ¬ nI (e + 1) ≤ nI j := nI_ge hd (by omega)
      refine br_f h0 (br_f hdl (br_f (by decide) ?_))
      by_cases h1 : v2 < 0
      · exact br_t h1 (br_t rfl (br_f h0 (br_f hdl (br_t h1 ⟨rfl, I'⟩))))
      · obtain ⟨i, hi, rfl⟩ := nI_of h1
        by_cases h4 : i < 4
        · have q : (nI (e + 1) - 1 - nI j) * 4 + nI i = nI ((e - j) * 4 + i) := by rw [nI_pred, pk_sub (by omega), wd_mul4, nI_add]
          have i0 : vp_in ((nI (e + 1) - 1 - nI j) * 4 + nI i) 24 := pk_in ((e - j) * 4 + i) 24 (by omega) q
          exact br_f h1 (br_f (nI_ge (b := 4) h4 (by decide)) (br_f (by decide) ⟨i0, br_f h0 (br_f hdl (br_f h1 (br_t (nI_le (b := 3) (by omega) (by decide)) ⟨i0, rfl, I'⟩)))⟩))
        · exact br_f h1 (br_t (nI_le (a := 4) (by omega) hi) (br_t rfl (br_f h0 (br_f hdl (br_f h1 (br_f (nI_ge (a := 3) (by omega) hi) ⟨rfl, I'⟩))))))
    · have hdl : nI d ≤ nI j := nI_le (by omega) hj
      exact br_f h0 (br_t hdl (br_t rfl (br_f h0 (br_t hdl ⟨rfl, I'⟩))))
theorem i_vc_output {k : Nat} {u : SX} {v : SY} (I : i_Rel k u v) (hk : k + 4 ≤ 2048) (v1 : Int32) : wpX_output (fun r => wpY_output (fun r' => r' = r ∧ i_Rel (k + 4) u v) v v1) u v1 := by
  have I' := i_up I
  obtain ⟨s, d, o, st, bc, cn, ops, fa, fb, bst, bsk, cs, ge, lc, lo, sk, go, la, rfl, rfl, ⟨Fs, Fd, Fo, F1, Fru, Ffr, Fg, Fb, Fc, Fu⟩⟩ := I
  by_cases h0 : v1 < 0
  · exact br_t h0 (br_t h0 ⟨rfl, I'⟩)
  · obtain ⟨j, hj, rfl⟩ := nI_of h0
    by_cases h8 : j < 8
    · have x8 : ¬ (8 : Int32) ≤ nI j := nI_ge (b := 8) h8 (by decide)
      have y8 : ¬ (7 : Int32) < nI j := nI_nlt (a := 7) (by omega) (by decide)
      by_cases ho : j < o
      · have hol : nI j < nI o := nI_lt ho (by omega)
        have q : (nI o - 1 - nI j) &&& 7 = nI ((o - 1 - j) % 8) := by
          rw [show nI o - 1 = nI (o - 1) from pk_sub (b := 1) (by omega), pk_sub (by omega), wd_and7 (by omega)]
        have i0 : vp_in ((nI o - 1 - nI j) &&& 7) 8 := pk_in ((o - 1 - j) % 8) 8 (by omega) q
        refine br_f h0 (br_f x8 (br_t hol ⟨i0, br_f h0 (br_f y8 (br_t hol ⟨vp_in_nI h8 (by decide), ?_, I'⟩))⟩))
        rw [q, nI_clamp (by omega), nI_clamp (by omega)]
        exact (Fu j h8 ho).symm
      · have hol : ¬ nI j < nI o := nI_nlt (by omega) hj
        exact br_f h0 (br_f x8 (br_f hol (br_f h0 (br_f y8 (br_f hol ⟨rfl, I'⟩)))))
    · exact br_f h0 (br_t (nI_le (a := 8) (by omega) hj) (br_f h0 (br_t (nI_lt (a := 7) (by omega) hj) ⟨rfl, I'⟩)))
theorem i_vc_skip {k : Nat} {u : SX} {v : SY} (I : i_Rel k u v) (hk : k + 4 ≤ 2048) (v1 : Int32) : wpX_skip (fun r => wpY_skip (fun r' => r' = r ∧ i_Rel (k + 4) u v) v v1) u v1 := by
  have I' := i_up I
  obtain ⟨s, d, o, st, bc, cn, ops, fa, fb, bst, bsk, cs, ge, lc, lo, sk, go, la, rfl, rfl, ⟨Fs, Fd, Fo, F1, Fru, Ffr, Fg, Fb, Fc, Fu⟩⟩ := I
  unfold wpX_skip wpY_skip
  dsimp only
  rcases wd_case Fs v1 with ⟨p, hp, rfl⟩ | hn
  · have hpi : vp_in (nI p) 20 := vp_in_nI (by omega) (by omega)
    have cl : (nI p).toNatClampNeg = p := nI_clamp (by omega)
    rcases Fb p (by omega) with ⟨b0, k0⟩ | ⟨b1, j, hj, ej, kj⟩
    · refine wd_hbF Fs hp b0 (br_t rfl (wd_ynT Fs hp (br_t rfl ⟨hpi, br_f ?_ ⟨rfl, I'⟩⟩)))
      rw [cl, k0]; decide
    · refine wd_hbT Fs hp b1 (br_f (by decide) ⟨hpi, wd_ynT Fs hp (br_t rfl ⟨hpi, br_t ?_ ⟨hpi, ?_, I'⟩⟩)⟩)
      · rw [cl, kj]; exact nI_pos' (by omega)
      · rw [cl, kj, ej]
  · exact wd_hbN hn (br_t rfl (wd_ynF hn (br_f (by decide) ⟨rfl, I'⟩)))
end
section
section
variable {s d o : Nat} {st bc cn : Int32} {ops fa fb bst bsk cs ge lc lo sk go la : Nat → Int32}
theorem wd_neg0 (f : Nat → Int32) : ∀ n, (∀ i, i < n → f i = -1) → wd_cnt f n = 0
  | 0, _ => rfl
  | n + 1, h => by
    show wd_cnt f n + (if f n < 0 then 0 else 1) = 0
    rw [wd_neg0 f n (fun i hi => h i (by omega)), h n (by omega), if_pos (by decide)]
theorem wd_ini {post : SY → Prop} (h : ∀ a : Nat → Int32, (∀ q, q < 20 → a q = -1) → post (nI s, st, nI d, cn, nI o, ops, fa, fb, a, lc, go, ge, la)) : ∀ (m i : Nat) (a : Nat → Int32), i + m = 20 → (∀ q, q < i → a q = -1) → wY_init_70 post (nI s) st (nI d) cn (nI o) (m + 1) (nI i) ops fa fb a lc go ge la
  | 0, i, a, hi, ha => br_t (nI_le (a := 20) (by omega) (by omega)) (h a (fun q hq => ha q (by omega)))
  | m + 1, i, a, hi, ha => br_f (nI_ge (b := 20) (by omega) (by decide)) ⟨vp_in_nI (by omega) (by omega), nm_r (e' := upd a i (-1)) (wd_up rfl (by omega) rfl) (nm_r (e' := nI (i + 1)) (nI_1 i) (wd_ini h m (i + 1) (upd a i (-1)) (by omega) (fun q hq => by
      by_cases z : q = i
      · rw [z, pk_us]
      · rw [pk_un z]; exact ha q (by omega))))⟩
theorem wd_brk {post : Int32 → Prop} (h : post (nI (wd_cnt sk 20))) : ∀ (m i : Nat), i + m = 20 → wY_breaks_4 post (nI s) st (nI d) cn (nI o) ops fa fb sk lc go ge la (m + 1) (nI (wd_cnt sk i)) (nI i)
  | 0, i, hi => by
    have : i = 20 := by omega
    subst this
    exact br_t (by decide) h
  | m + 1, i, hi => by
    refine br_f (nI_ge (b := 20) (by omega) (by decide)) ⟨vp_in_nI (by omega) (by omega), ?_⟩
    have ih := wd_brk h m (i + 1) (by omega)
    have e1 : wd_cnt sk (i + 1) = wd_cnt sk i + (if sk i < 0 then 0 else 1) := rfl
    by_cases z : sk i < 0
    · rw [e1, if_pos z] at ih
      exact br_t (by rw [nI_clamp (by omega)]; exact z) (nm_r (e' := nI (i + 1)) (nI_1 i) ih)
    · rw [e1, if_neg z] at ih
      exact br_f (by rw [nI_clamp (by omega)]; exact z) (nm_r (e' := nI (wd_cnt sk i + 1)) (nI_1 _) (nm_r (e' := nI (i + 1)) (nI_1 i) ih))
theorem wd_brks {post : Int32 → Prop} (h : post (nI (wd_cnt sk 20))) : wpY_breaks post (nI s, st, nI d, cn, nI o, ops, fa, fb, sk, lc, go, ge, la) := ⟨20 + 1, wd_brk h 20 0 rfl⟩
end
theorem i_vc0 : wpX_init (fun u => wpY_init (fun v => i_Rel 0 u v)) :=
  ⟨20 + 1, wd_ini (s := 0) (d := 0) (o := 0) (st := 0) (cn := 0) (ops := fun _ => 0) (fa := fun _ => 0) (fb := fun _ => 0) (lc := fun _ => 0) (go := fun _ => 0) (ge := fun _ => 0) (la := fun _ => 0)
    (fun a ha => ⟨0, 0, 0, 0, 0, 0, fun _ => 0, fun _ => 0, fun _ => 0, fun _ => 0, fun _ => 0, fun _ => 0, fun _ => 0, fun _ => 0, fun _ => 0, a, fun _ => 0, fun _ => 0, rfl, rfl,
      ⟨by omega, by omega, by omega, fun z => absurd rfl z, fun z => absurd rfl z, ⟨fun _ _ => rfl, fun _ _ => rfl⟩, fun _ => ⟨0, by omega, rfl⟩, fun i hi => Or.inl ⟨rfl, ha i hi⟩, by rw [wd_neg0 a 20 ha]; rfl, fun _ _ _ => rfl⟩⟩) 20 0 (fun _ => 0) rfl (fun q hq => absurd hq (by omega))⟩
theorem i_vc_emit {k : Nat} {u : SX} {v : SY} (I : i_Rel k u v) (hk : k + 4 ≤ 2048) (v1 : Int32) (v2 : Int32) (v3 : Int32) : wpX_emit (fun r u' => wpY_emit (fun r' v' => r' = r ∧ i_Rel (k + 4) u' v') v v1 v2 v3) u v1 v2 v3 := by
  have I' := i_up I
  obtain ⟨s, d, o, st, bc, cn, ops, fa, fb, bst, bsk, cs, ge, lc, lo, sk, go, la, rfl, rfl, ⟨Fs, Fd, Fo, F1, Fru, Ffr, Fg, Fb, Fc, Fu⟩⟩ := I
  by_cases h0 : v1 < 0
  · exact br_t h0 (br_t h0 ⟨rfl, I'⟩)
  by_cases h1 : v1 ≤ 10
  · by_cases h2 : s < 20
    · have xs : nI s < 20 := nI_lt (b := 20) h2 (by decide)
      have ys : ¬ nI s = 20 := fun z => by
        have := (nI_eq (a := s) (b := 20) (by omega) (by decide)).mp z
        omega
      by_cases h3 : st = 0
      · have hi : vp_in (nI s) 20 := vp_in_nI h2 (by decide)
        refine br_f h0 (br_t h1 (br_t xs (br_t h3 ⟨hi, nm_e ⟨hi, nm_e ⟨hi, nm_e (nm_r (e' := nI (s + 1)) (nI_1 s) ?_)⟩⟩⟩)))
        refine br_f h0 (br_t h1 (br_f ys (br_t h3 ⟨hi, nm_e ⟨hi, nm_e ⟨hi, nm_e (nm_r (e' := nI (s + 1)) (nI_1 s) ⟨nI_pred s, ?_⟩)⟩⟩⟩)))
        exact ⟨s + 1, d, o, st, bc, cn, _, _, _, bst, bsk, cs, ge, lc, lo, sk, go, la, rfl, rfl, ⟨h2, Fd, by omega, F1, fun z => absurd h3 z, Ffr, Fg, Fb, Fc, Fu⟩⟩
      · exact br_f h0 (br_t h1 (br_t xs (br_f h3 (br_f h0 (br_t h1 (br_f ys (br_f h3 ⟨rfl, I'⟩)))))))
    · have : s = 20 := by omega
      subst this
      exact br_f h0 (br_t h1 (br_f (by decide) (br_f h0 (br_t h1 (br_t (by decide) ⟨rfl, I'⟩)))))
  · exact br_f h0 (br_f h1 (br_f h0 (br_f h1 ⟨rfl, I'⟩)))
theorem i_vc_start {k : Nat} {u : SX} {v : SY} (I : i_Rel k u v) (hk : k + 4 ≤ 2048) (v1 : Int32) : wpX_start (fun r u' => wpY_start (fun r' v' => r' = r ∧ i_Rel (k + 4) u' v') v v1) u v1 := by
  have I' := i_up I
  obtain ⟨s, d, o, st, bc, cn, ops, fa, fb, bst, bsk, cs, ge, lc, lo, sk, go, la, rfl, rfl, ⟨Fs, Fd, Fo, F1, Fru, Ffr, Fg, Fb, Fc, Fu⟩⟩ := I
  unfold wpX_start wpY_start
  dsimp only
  rcases wd_case Fs v1 with ⟨p, hp, rfl⟩ | hn
  · refine wd_inT Fs hp (br_f (by decide) (wd_add (f := 0) (by omega) (wd_ynT Fs hp (br_t rfl ⟨0 + 1 + 1 + 1 + 1 + 1, ?_⟩))))
    refine br_f (by decide) ⟨vp_in_nI (n := 0) (by omega) (by decide), nm_r (e' := upd lc (0 * 4) 0) (wd_up rfl (by omega) rfl) (nm_r (e' := 1) (by decide) ?_)⟩
    refine br_f (by decide) ⟨vp_in_nI (n := 1) (by omega) (by decide), nm_r (e' := upd (upd lc (0 * 4) 0) (0 * 4 + 1) 0) (wd_up rfl (by omega) rfl) (nm_r (e' := 2) (by decide) ?_)⟩
    refine br_f (by decide) ⟨vp_in_nI (n := 2) (by omega) (by decide), nm_r (e' := upd (upd (upd lc (0 * 4) 0) (0 * 4 + 1) 0) (0 * 4 + 2) 0) (wd_up rfl (by omega) rfl) (nm_r (e' := 3) (by decide) ?_)⟩
    refine br_f (by decide) ⟨vp_in_nI (n := 3) (by omega) (by decide), nm_r (e' := upd (upd (upd (upd lc (0 * 4) 0) (0 * 4 + 1) 0) (0 * 4 + 2) 0) (0 * 4 + 3) 0) (wd_up rfl (by omega) rfl) (nm_r (e' := 4) (by decide) ?_)⟩
    exact br_t (by decide) ⟨rfl, ⟨s, 1, 0, 1, bc, nI p, ops, fa, fb, bst, bsk, upd cs 0 (nI p), ge, upd (upd (upd (upd lc (0 * 4) 0) (0 * 4 + 1) 0) (0 * 4 + 2) 0) (0 * 4 + 3) 0, lo, sk, go, la, rfl, rfl, ⟨Fs, by omega, by omega, fun _ => by omega, fun _ _ _ => ⟨p, hp, rfl⟩, ⟨fun i h => absurd h (by omega), fun i h => by cases h; exact pk_us⟩, Fg, Fb, Fc, fun b _ h => absurd h (by omega)⟩⟩⟩
  · exact wd_inF hn (br_t rfl (wd_ynF hn (br_f (by decide) ⟨rfl, I'⟩)))
theorem wd_Bset {bst bsk sk : Nat → Int32} {p j : Nat} (h : wd_Bk bst bsk sk) (hj : j ≤ 100) : wd_Bk (upd bst p 1) (upd bsk p (nI j)) (upd sk p (nI j)) := fun q hq => by
  by_cases z : q = p
  · rw [z, pk_us, pk_us, pk_us]; exact Or.inr ⟨rfl, j, hj, rfl, rfl⟩
  · rw [pk_un z, pk_un z, pk_un z]; exact h q hq
theorem wd_Bset' {bst bsk sk : Nat → Int32} {p j : Nat} (h : wd_Bk bst bsk sk) (hb : bst p = 1) (hj : j ≤ 100) : wd_Bk bst (upd bsk p (nI j)) (upd sk p (nI j)) := fun q hq => by
  by_cases z : q = p
  · rw [z, pk_us, pk_us]; exact Or.inr ⟨hb, j, hj, rfl, rfl⟩
  · rw [pk_un z, pk_un z]; exact h q hq
theorem wd_Bclr {bst bsk sk : Nat → Int32} {p : Nat} (h : wd_Bk bst bsk sk) : wd_Bk (upd bst p 0) bsk (upd sk p (-1)) := fun q hq => by
  by_cases z : q = p
  · rw [z, pk_us, pk_us]; exact Or.inl ⟨rfl, rfl⟩
  · rw [pk_un z, pk_un z]; exact h q hq
theorem wd_nb1 : vp_nar .boolean 1 = 1 := by rfl
theorem wd_nb0 : vp_nar .boolean 0 = 0 := by rfl
theorem i_vc_setBreak {k : Nat} {u : SX} {v : SY} (I : i_Rel k u v) (hk : k + 4 ≤ 2048) (v1 : Int32) (v2 : Int32) : wpX_setBreak (fun r u' => wpY_setBreak (fun r' v' => r' = r ∧ i_Rel (k + 4) u' v') v v1 v2) u v1 v2 := by
  have I' := i_up I
  obtain ⟨s, d, o, st, bc, cn, ops, fa, fb, bst, bsk, cs, ge, lc, lo, sk, go, la, rfl, rfl, ⟨Fs, Fd, Fo, F1, Fru, Ffr, Fg, Fb, Fc, Fu⟩⟩ := I
  subst Fc
  unfold wpX_setBreak wpY_setBreak
  dsimp only
  rcases wd_case Fs v1 with ⟨p, hp, rfl⟩ | hn
  · refine wd_inT Fs hp (br_f (by decide) ?_)
    by_cases h0 : v2 < 0
    · exact br_t h0 (wd_ynT Fs hp (br_t rfl (br_t h0 ⟨rfl, I'⟩)))
    by_cases h1 : v2 ≤ 100
    · obtain ⟨j, hj, rfl⟩ := nI_of2 (n := 100) (by decide) h0 h1
      have hpi : vp_in (nI p) 20 := vp_in_nI (by omega) (by omega)
      have cl : (nI p).toNatClampNeg = p := nI_clamp (by omega)
      rcases Fb p (by omega) with ⟨b0, k0⟩ | ⟨b1, i, hi, ei, ki⟩
      · have ec : wd_cnt (upd sk p (nI j)) 20 = wd_cnt sk 20 + 1 := wd_cnt_up (by rw [k0]; decide) h0 20 (by omega)
        exact br_f h0 (br_t h1 ⟨hpi, br_t (by rw [cl]; exact b0) ⟨hpi, nm_r (e' := upd bst p 1) (wd_up rfl (by omega) wd_nb1) (nm_r (e' := nI (wd_cnt sk 20 + 1)) (nI_1 _) ⟨hpi, nm_r (e' := upd bsk p (nI j)) (wd_up rfl (by omega) rfl) (wd_ynT Fs hp (br_t rfl (br_f h0 (br_t h1 ⟨hpi, nm_r (e' := upd sk p (nI j)) (wd_up rfl (by omega) rfl) (wd_brks ⟨congrArg nI ec,
          ⟨s, d, o, st, _, cn, ops, fa, fb, upd bst p 1, upd bsk p (nI j), cs, ge, lc, lo, upd sk p (nI j), go, la, rfl, rfl, ⟨Fs, Fd, by omega, F1, Fru, Ffr, Fg, wd_Bset Fb hj, congrArg nI ec.symm, Fu⟩⟩⟩)⟩))))⟩)⟩⟩)
      · have ec : wd_cnt (upd sk p (nI j)) 20 = wd_cnt sk 20 := wd_cnt_same sk p (nI j) 20 (by rw [ki]; exact nI_pos (by omega)) h0
        exact br_f h0 (br_t h1 ⟨hpi, br_f (by rw [cl, b1]; decide) ⟨hpi, nm_r (e' := upd bsk p (nI j)) (wd_up rfl (by omega) rfl) (wd_ynT Fs hp (br_t rfl (br_f h0 (br_t h1 ⟨hpi, nm_r (e' := upd sk p (nI j)) (wd_up rfl (by omega) rfl) (wd_brks ⟨congrArg nI ec,
          ⟨s, d, o, st, _, cn, ops, fa, fb, bst, upd bsk p (nI j), cs, ge, lc, lo, upd sk p (nI j), go, la, rfl, rfl, ⟨Fs, Fd, by omega, F1, Fru, Ffr, Fg, wd_Bset' Fb b1 hj, congrArg nI ec.symm, Fu⟩⟩⟩)⟩))))⟩⟩)
    · exact br_f h0 (br_f h1 (wd_ynT Fs hp (br_t rfl (br_f h0 (br_f h1 ⟨rfl, I'⟩)))))
  · exact wd_inF hn (br_t rfl (wd_ynF hn (br_f (by decide) ⟨rfl, I'⟩)))
theorem i_vc_clearBreak {k : Nat} {u : SX} {v : SY} (I : i_Rel k u v) (hk : k + 4 ≤ 2048) (v1 : Int32) : wpX_clearBreak (fun r u' => wpY_clearBreak (fun r' v' => r' = r ∧ i_Rel (k + 4) u' v') v v1) u v1 := by
  have I' := i_up I
  obtain ⟨s, d, o, st, bc, cn, ops, fa, fb, bst, bsk, cs, ge, lc, lo, sk, go, la, rfl, rfl, ⟨Fs, Fd, Fo, F1, Fru, Ffr, Fg, Fb, Fc, Fu⟩⟩ := I
  subst Fc
  unfold wpX_clearBreak wpY_clearBreak
  dsimp only
  rcases wd_case Fs v1 with ⟨p, hp, rfl⟩ | hn
  · have hpi : vp_in (nI p) 20 := vp_in_nI (by omega) (by omega)
    have cl : (nI p).toNatClampNeg = p := nI_clamp (by omega)
    rcases Fb p (by omega) with ⟨b0, k0⟩ | ⟨b1, j, hj, ej, kj⟩
    · refine wd_hbF Fs hp b0 (br_t rfl (wd_ynT Fs hp (br_t rfl ⟨hpi, br_f ?_ ⟨rfl, I'⟩⟩)))
      rw [cl, k0]; decide
    · have ec : wd_cnt (upd sk p (-1)) 20 + 1 = wd_cnt sk 20 := wd_cnt_dn (by rw [kj]; exact nI_pos (by omega)) (by decide) 20 (by omega)
      have ep : nI (wd_cnt sk 20) - 1 = nI (wd_cnt (upd sk p (-1)) 20) := by rw [← ec, nI_pred]
      have y0 : 0 ≤ sk (nI p).toNatClampNeg := by rw [cl, kj]; exact nI_pos' (by omega)
      exact wd_hbT Fs hp b1 (br_f (by decide) ⟨hpi, nm_r (e' := upd bst p 0) (wd_up rfl (by omega) wd_nb0) (nm_r (e' := nI (wd_cnt (upd sk p (-1)) 20)) ep (wd_ynT Fs hp (br_t rfl ⟨hpi, br_t y0 ⟨hpi, nm_r (e' := upd sk p (-1)) (wd_up rfl (by omega) rfl) (wd_brks ⟨rfl,
        ⟨s, d, o, st, _, cn, ops, fa, fb, upd bst p 0, bsk, cs, ge, lc, lo, upd sk p (-1), go, la, rfl, rfl, ⟨Fs, Fd, by omega, F1, Fru, Ffr, Fg, wd_Bclr Fb, rfl, Fu⟩⟩⟩)⟩⟩)))⟩)
  · exact wd_hbN hn (br_t rfl (wd_ynF hn (br_f (by decide) ⟨rfl, I'⟩)))
theorem i_vc_setLocal {k : Nat} {u : SX} {v : SY} (I : i_Rel k u v) (hk : k + 4 ≤ 2048) (v1 : Int32) (v2 : Int32) : wpX_setLocal (fun r u' => wpY_setLocal (fun r' v' => r' = r ∧ i_Rel (k + 4) u' v') v v1 v2) u v1 v2 := by
  have I' := i_up I
  obtain ⟨s, d, o, st, bc, cn, ops, fa, fb, bst, bsk, cs, ge, lc, lo, sk, go, la, rfl, rfl, ⟨Fs, Fd, Fo, F1, Fru, Ffr, Fg, Fb, Fc, Fu⟩⟩ := I
  cases d with
  | zero => exact br_t rfl (br_t rfl ⟨rfl, I'⟩)
  | succ e =>
    have hne : ¬ nI (e + 1) = 0 := nI_ne0 (by omega) (by omega)
    refine br_f hne ?_
    by_cases h0 : v1 < 0
    · exact br_t h0 (br_t rfl (br_f hne (br_t h0 ⟨rfl, I'⟩)))
    · obtain ⟨j, hj, rfl⟩ := nI_of h0
      by_cases h4 : j < 4
      · have q : (nI (e + 1) - 1) * 4 + nI j = nI (e * 4 + j) := by rw [wd_base, nI_add]
        have i0 : vp_in ((nI (e + 1) - 1) * 4 + nI j) 24 := pk_in (e * 4 + j) 24 (by omega) q
        exact br_f h0 (br_f (nI_ge (b := 4) h4 (by decide)) (br_f (by decide) ⟨i0, nm_e (br_f hne (br_f h0 (br_t (nI_le (b := 3) (by omega) (by decide)) ⟨i0, nm_e ⟨rfl,
          ⟨s, e + 1, o, st, bc, cn, ops, fa, fb, bst, bsk, cs, ge, _, lo, sk, go, la, rfl, rfl, ⟨Fs, Fd, by omega, F1, Fru, Ffr, Fg, Fb, Fc, Fu⟩⟩⟩⟩)))⟩))
      · exact br_f h0 (br_t (nI_le (a := 4) (by omega) hj) (br_t rfl (br_f hne (br_f h0 (br_f (nI_ge (a := 3) (by omega) hj) ⟨rfl, I'⟩)))))
end
section
theorem wd_run {B : Nat} (hB : B + 300 < 2 ^ 30) {u : SX} {v : SY} (h : wd_R B u v) (x g : Int32) : ∃ (r : Int32) (u' : SX) (v' : SY), wd_R (B + 300) u' v' ∧ (∀ post : Int32 → SX → Prop, post r u' → wpX_runCommand post u x g) ∧ (∀ post : Int32 → SY → Prop, post r v' → wpY_run post v x g) := by
  have h' : wd_R (B + 300) u v := wd_Rm (by omega) h
  obtain ⟨s, d, o, st, bc, cn, ops, fa, fb, bst, bsk, cs, ge, lc, lo, sk, go, la, rfl, rfl, ⟨Fs, Fd, Fo, F1, Fru, Ffr, Fg, Fb, Fc, Fu⟩⟩ := h
  by_cases h0 : st = 0
  · refine ⟨-4, _, _, h', fun post hp => ?_, fun post hp => ?_⟩
    · unfold wpX_runCommand
      dsimp only
      exact br_t h0 (br_t rfl hp)
    · exact br_t h0 hp
  by_cases h5 : st = 5
  · refine ⟨-4, _, _, h', fun post hp => ?_, fun post hp => ?_⟩
    · unfold wpX_runCommand
      dsimp only
      exact br_f h0 (br_t h5 (br_t rfl hp))
    · exact br_f h0 (br_t h5 hp)
  by_cases h6 : st = 6
  · refine ⟨-4, _, _, h', fun post hp => ?_, fun post hp => ?_⟩
    · unfold wpX_runCommand
      dsimp only
      exact br_f h0 (br_f h5 (br_t h6 (br_t rfl hp)))
    · exact br_f h0 (br_f h5 (br_t h6 hp))
  obtain ⟨p, hp, rfl⟩ := Fru h0 h5 h6
  have hd1 := F1 h0
  obtain ⟨e, rfl⟩ : ∃ e, d = e + 1 := ⟨d - 1, by omega⟩
  have key : ∀ m, m + 1 ≤ 300 → _ := fun m hm => wd_loop g (m + 1) hm m 1 B (by omega) (by omega) s e o p st bc ops fa fb bst bsk cs ge lc lo sk go la Fs hp (by omega) Fo h0 (fun i hi => Ffr.1 i (by omega)) (Ffr.2 e rfl) Fg Fb Fc Fu
  by_cases x1 : 1 ≤ x
  · by_cases x3 : x ≤ 300
    · obtain ⟨j, hj, rfl⟩ := nI_of2 (x := x) (n := 300) (by decide) (fun z => absurd (Int32.lt_of_lt_of_le z (Int32.le_trans (by decide) x1)) Int32.lt_irrefl) x3
      have hj1 : 1 ≤ j := (nI_leI (a := 1) (by decide) (by omega)).mp x1
      obtain ⟨m, rfl⟩ : ∃ m, j = m + 1 := ⟨j - 1, by omega⟩
      obtain ⟨r, u', v', R, hX, hY⟩ := key m hj
      refine ⟨r, u', v', wd_Rm (by omega) R, fun post q => ?_, fun post q => ?_⟩
      · unfold wpX_runCommand
        dsimp only
        exact br_f h0 (br_f h5 (br_f h6 (br_f (by decide) (br_t x1 (br_t x3 ⟨_, hX post q⟩)))))
      · exact br_f h0 (br_f h5 (br_f h6 (br_t x1 (br_t x3 ⟨_, hY post q⟩))))
    · obtain ⟨r, u', v', R, hX, hY⟩ := key 299 (by omega)
      refine ⟨r, u', v', wd_Rm (by omega) R, fun post q => ?_, fun post q => ?_⟩
      · unfold wpX_runCommand
        dsimp only
        exact br_f h0 (br_f h5 (br_f h6 (br_f (by decide) (br_t x1 (br_f x3 ⟨_, hX post q⟩)))))
      · exact br_f h0 (br_f h5 (br_f h6 (br_t x1 (br_f x3 ⟨_, hY post q⟩))))
  · obtain ⟨r, u', v', R, hX, hY⟩ := key 0 (by omega)
    refine ⟨r, u', v', wd_Rm (by omega) R, fun post q => ?_, fun post q => ?_⟩
    · unfold wpX_runCommand
      dsimp only
      exact br_f h0 (br_f h5 (br_f h6 (br_f (by decide) (br_f x1 ⟨_, hX post q⟩))))
    · exact br_f h0 (br_f h5 (br_f h6 (br_f x1 ⟨_, hY post q⟩)))
theorem i_vc_resume {k : Nat} {u : SX} {v : SY} (I : i_Rel k u v) (hk : k + 4 ≤ 2048) (v1 : Int32) : wpX_resume (fun r u' => wpY_resume (fun r' v' => r' = r ∧ i_Rel (k + 4) u' v') v v1) u v1 := by
  have hB : 75 * k + 300 < 2 ^ 30 := by omega
  have I2 := I
  obtain ⟨s, d, o, st, bc, cn, ops, fa, fb, bst, bsk, cs, ge, lc, lo, sk, go, la, rfl, rfl, F⟩ := I2
  obtain ⟨r, u', v', R, hX, hY⟩ := wd_run hB I v1 0
  exact hX (fun r u' => wpY_resume (fun r' v' => r' = r ∧ i_Rel (k + 4) u' v') (nI s, st, nI d, cn, nI o, ops, fa, fb, sk, lc, go, ge, la) v1) (hY (fun r' v' => r' = r ∧ i_Rel (k + 4) u' v') ⟨rfl, R⟩)
theorem i_vc_stepInto {k : Nat} {u : SX} {v : SY} (I : i_Rel k u v) (hk : k + 4 ≤ 2048) : wpX_stepInto (fun r u' => wpY_stepInto (fun r' v' => r' = r ∧ i_Rel (k + 4) u' v') v) u := by
  have hB : 75 * k + 300 < 2 ^ 30 := by omega
  have I2 := I
  obtain ⟨s, d, o, st, bc, cn, ops, fa, fb, bst, bsk, cs, ge, lc, lo, sk, go, la, rfl, rfl, F⟩ := I2
  obtain ⟨r, u', v', R, hX, hY⟩ := wd_run hB I 1 6
  exact hX (fun r u' => wpY_stepInto (fun r' v' => r' = r ∧ i_Rel (k + 4) u' v') (nI s, st, nI d, cn, nI o, ops, fa, fb, sk, lc, go, ge, la)) (hY (fun r' v' => r' = r ∧ i_Rel (k + 4) u' v') ⟨rfl, R⟩)
theorem i_vc_stepOver {k : Nat} {u : SX} {v : SY} (I : i_Rel k u v) (hk : k + 4 ≤ 2048) (v1 : Int32) : wpX_stepOver (fun r u' => wpY_stepOver (fun r' v' => r' = r ∧ i_Rel (k + 4) u' v') v v1) u v1 := by
  have hB : 75 * k + 300 < 2 ^ 30 := by omega
  have I2 := I
  obtain ⟨s, d, o, st, bc, cn, ops, fa, fb, bst, bsk, cs, ge, lc, lo, sk, go, la, rfl, rfl, F⟩ := I2
  obtain ⟨r, u', v', R, hX, hY⟩ := wd_run hB I v1 (nI d)
  exact hX (fun r u' => wpY_stepOver (fun r' v' => r' = r ∧ i_Rel (k + 4) u' v') (nI s, st, nI d, cn, nI o, ops, fa, fb, sk, lc, go, ge, la) v1) (hY (fun r' v' => r' = r ∧ i_Rel (k + 4) u' v') ⟨rfl, R⟩)
theorem i_vc_stepOut {k : Nat} {u : SX} {v : SY} (I : i_Rel k u v) (hk : k + 4 ≤ 2048) (v1 : Int32) : wpX_stepOut (fun r u' => wpY_stepOut (fun r' v' => r' = r ∧ i_Rel (k + 4) u' v') v v1) u v1 := by
  have hB : 75 * k + 300 < 2 ^ 30 := by omega
  have I2 := I
  obtain ⟨s, d, o, st, bc, cn, ops, fa, fb, bst, bsk, cs, ge, lc, lo, sk, go, la, rfl, rfl, F⟩ := I2
  obtain ⟨r, u', v', R, hX, hY⟩ := wd_run hB I v1 (nI d - 1)
  exact hX (fun r u' => wpY_stepOut (fun r' v' => r' = r ∧ i_Rel (k + 4) u' v') (nI s, st, nI d, cn, nI o, ops, fa, fb, sk, lc, go, ge, la) v1) (hY (fun r' v' => r' = r ∧ i_Rel (k + 4) u' v') ⟨rfl, R⟩)
end
