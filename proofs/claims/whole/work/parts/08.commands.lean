theorem wd_run {B : Nat} (hB : B + 300 < 2 ^ 30) {u : SX} {v : SY} (h : wd_R B u v) (x g : Int32) : ∃ (r : Int32) (u' : SX) (v' : SY), wd_R (B + 300) u' v' ∧ (∀ post : Int32 → SX → Prop, post r u' → wpX_runCommand post u x g) ∧ (∀ post : Int32 → SY → Prop, post r v' → wpY_run post v x g) := by
  have h' : wd_R (B + 300) u v := wd_Rm (by omega) h
  obtain ⟨s, d, o, st, bc, cn, ops, fa, fb, bst, bsk, cs, ge, lc, lo, sk, go, la, rfl, rfl, ⟨Fs, Fd, Fo, F1, Fru, Ffr, Fg, Fb, Fc, Fu⟩⟩ := h
  by_cases h0 : st = 0
  · refine ⟨-4, _, _, h', fun post hp => ?_, fun post hp => ?_⟩
    · unfold wpX_runCommand
      dsimp only
      exact br_t h0 (br_t rfl hp)
    · exact br_t h0 hp
  by_cases h5 : st = 5
  · refine ⟨-4, _, _, h', fun post hp => ?_, fun post hp => ?_⟩
    · unfold wpX_runCommand
      dsimp only
      exact br_f h0 (br_t h5 (br_t rfl hp))
    · exact br_f h0 (br_t h5 hp)
  by_cases h6 : st = 6
  · refine ⟨-4, _, _, h', fun post hp => ?_, fun post hp => ?_⟩
    · unfold wpX_runCommand
      dsimp only
      exact br_f h0 (br_f h5 (br_t h6 (br_t rfl hp)))
    · exact br_f h0 (br_f h5 (br_t h6 hp))
  obtain ⟨p, hp, rfl⟩ := Fru h0 h5 h6
  have hd1 := F1 h0
  obtain ⟨e, rfl⟩ : ∃ e, d = e + 1 := ⟨d - 1, by omega⟩
  have key : ∀ m, m + 1 ≤ 300 → _ := fun m hm => wd_loop g (m + 1) hm m 1 B (by omega) (by omega) s e o p st bc ops fa fb bst bsk cs ge lc lo sk go la Fs hp (by omega) Fo h0 (fun i hi => Ffr.1 i (by omega)) (Ffr.2 e rfl) Fg Fb Fc Fu
  by_cases x1 : 1 ≤ x
  · by_cases x3 : x ≤ 300
    · obtain ⟨j, hj, rfl⟩ := nI_of2 (x := x) (n := 300) (by decide) (fun z => absurd (Int32.lt_of_lt_of_le z (Int32.le_trans (by decide) x1)) Int32.lt_irrefl) x3
      have hj1 : 1 ≤ j := (nI_leI (a := 1) (by decide) (by omega)).mp x1
      obtain ⟨m, rfl⟩ : ∃ m, j = m + 1 := ⟨j - 1, by omega⟩
      obtain ⟨r, u', v', R, hX, hY⟩ := key m hj
      refine ⟨r, u', v', wd_Rm (by omega) R, fun post q => ?_, fun post q => ?_⟩
      · unfold wpX_runCommand
        dsimp only
        exact br_f h0 (br_f h5 (br_f h6 (br_f (by decide) (br_t x1 (br_t x3 ⟨_, hX post q⟩)))))
      · exact br_f h0 (br_f h5 (br_f h6 (br_t x1 (br_t x3 ⟨_, hY post q⟩))))
    · obtain ⟨r, u', v', R, hX, hY⟩ := key 299 (by omega)
      refine ⟨r, u', v', wd_Rm (by omega) R, fun post q => ?_, fun post q => ?_⟩
      · unfold wpX_runCommand
        dsimp only
        exact br_f h0 (br_f h5 (br_f h6 (br_f (by decide) (br_t x1 (br_f x3 ⟨_, hX post q⟩)))))
      · exact br_f h0 (br_f h5 (br_f h6 (br_t x1 (br_f x3 ⟨_, hY post q⟩))))
  · obtain ⟨r, u', v', R, hX, hY⟩ := key 0 (by omega)
    refine ⟨r, u', v', wd_Rm (by omega) R, fun post q => ?_, fun post q => ?_⟩
    · unfold wpX_runCommand
      dsimp only
      exact br_f h0 (br_f h5 (br_f h6 (br_f (by decide) (br_f x1 ⟨_, hX post q⟩))))
    · exact br_f h0 (br_f h5 (br_f h6 (br_f x1 ⟨_, hY post q⟩)))
theorem i_vc_resume {k : Nat} {u : SX} {v : SY} (I : i_Rel k u v) (hk : k + 4 ≤ 2048) (v1 : Int32) : wpX_resume (fun r u' => wpY_resume (fun r' v' => r' = r ∧ i_Rel (k + 4) u' v') v v1) u v1 := by
  have hB : 75 * k + 300 < 2 ^ 30 := by omega
  have I2 := I
  obtain ⟨s, d, o, st, bc, cn, ops, fa, fb, bst, bsk, cs, ge, lc, lo, sk, go, la, rfl, rfl, F⟩ := I2
  obtain ⟨r, u', v', R, hX, hY⟩ := wd_run hB I v1 0
  exact hX (fun r u' => wpY_resume (fun r' v' => r' = r ∧ i_Rel (k + 4) u' v') (nI s, st, nI d, cn, nI o, ops, fa, fb, sk, lc, go, ge, la) v1) (hY (fun r' v' => r' = r ∧ i_Rel (k + 4) u' v') ⟨rfl, R⟩)
theorem i_vc_stepInto {k : Nat} {u : SX} {v : SY} (I : i_Rel k u v) (hk : k + 4 ≤ 2048) : wpX_stepInto (fun r u' => wpY_stepInto (fun r' v' => r' = r ∧ i_Rel (k + 4) u' v') v) u := by
  have hB : 75 * k + 300 < 2 ^ 30 := by omega
  have I2 := I
  obtain ⟨s, d, o, st, bc, cn, ops, fa, fb, bst, bsk, cs, ge, lc, lo, sk, go, la, rfl, rfl, F⟩ := I2
  obtain ⟨r, u', v', R, hX, hY⟩ := wd_run hB I 1 6
  exact hX (fun r u' => wpY_stepInto (fun r' v' => r' = r ∧ i_Rel (k + 4) u' v') (nI s, st, nI d, cn, nI o, ops, fa, fb, sk, lc, go, ge, la)) (hY (fun r' v' => r' = r ∧ i_Rel (k + 4) u' v') ⟨rfl, R⟩)
theorem i_vc_stepOver {k : Nat} {u : SX} {v : SY} (I : i_Rel k u v) (hk : k + 4 ≤ 2048) (v1 : Int32) : wpX_stepOver (fun r u' => wpY_stepOver (fun r' v' => r' = r ∧ i_Rel (k + 4) u' v') v v1) u v1 := by
  have hB : 75 * k + 300 < 2 ^ 30 := by omega
  have I2 := I
  obtain ⟨s, d, o, st, bc, cn, ops, fa, fb, bst, bsk, cs, ge, lc, lo, sk, go, la, rfl, rfl, F⟩ := I2
  obtain ⟨r, u', v', R, hX, hY⟩ := wd_run hB I v1 (nI d)
  exact hX (fun r u' => wpY_stepOver (fun r' v' => r' = r ∧ i_Rel (k + 4) u' v') (nI s, st, nI d, cn, nI o, ops, fa, fb, sk, lc, go, ge, la) v1) (hY (fun r' v' => r' = r ∧ i_Rel (k + 4) u' v') ⟨rfl, R⟩)
theorem i_vc_stepOut {k : Nat} {u : SX} {v : SY} (I : i_Rel k u v) (hk : k + 4 ≤ 2048) (v1 : Int32) : wpX_stepOut (fun r u' => wpY_stepOut (fun r' v' => r' = r ∧ i_Rel (k + 4) u' v') v v1) u v1 := by
  have hB : 75 * k + 300 < 2 ^ 30 := by omega
  have I2 := I
  obtain ⟨s, d, o, st, bc, cn, ops, fa, fb, bst, bsk, cs, ge, lc, lo, sk, go, la, rfl, rfl, F⟩ := I2
  obtain ⟨r, u', v', R, hX, hY⟩ := wd_run hB I v1 (nI d - 1)
  exact hX (fun r u' => wpY_stepOut (fun r' v' => r' = r ∧ i_Rel (k + 4) u' v') (nI s, st, nI d, cn, nI o, ops, fa, fb, sk, lc, go, ge, la) v1) (hY (fun r' v' => r' = r ∧ i_Rel (k + 4) u' v') ⟨rfl, R⟩)
