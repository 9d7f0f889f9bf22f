-- follow: m is the number of steps taken at most, 0 to 16
theorem cs_fol {f g : Int32} {pn pk on ok sn sk ik hd oi oh si sh : Nat → Int32} {x : Int32} {s m : Nat} (hs : s < 4) (hm : m ≤ 16) (hA : ∀ i : Nat, i < m → ¬ x ≤ nI i) (hB : m < 16 → x ≤ nI m) (H : cs_st pn pk ik hd) : ∀ d i : Nat, i + d = m → ∀ a : Nat, a < 16 → ∃ r : Int32,
    (∀ post : Int32 → Prop, post r → wX_follow_16 post (nI s) x f pn pk on ok sn sk (d + 1) (nI a) (nI i)) ∧
    (∀ post : Int32 → Prop, post r → wY_follow_38 post (nI s) (nI m) g ik hd oi oh si sh (d + 1) (nI a) (nI i)) := by
  intro d
  induction d with
  | zero =>
    intro i hi a ha
    have h : nI m ≤ nI i := nI_le (by omega) (by omega)
    refine ⟨nI a, fun post hp => br_c (fun _ => hp) (fun z => br_t ?_ hp), fun post hp => br_t h hp⟩
    have hmi : m = i := by omega
    subst hmi
    by_cases e : m < 16
    · exact hB e
    · exact absurd (nI_le (a := 16) (by omega) (by omega)) z
  | succ d ih =>
    intro i hi a ha
    have h16 : ¬ (16 : Int32) ≤ nI i := nI_ge (b := 16) (by omega) (by decide)
    have hx : ¬ x ≤ nI i := hA i (by omega)
    have hy : ¬ nI m ≤ nI i := nI_ge (by omega) (by omega)
    have hv : vp_in (4 * nI a + nI s) 64 := by rw [cs_yc]; exact vp_in_nI (by omega) (by decide)
    have cl : (4 * nI a + nI s).toNatClampNeg = 4 * a + s := by rw [cs_yc]; exact nI_clamp (by omega)
    rcases H (4 * a + s) with ⟨e1, e2, e3⟩ | ⟨t, ht, e1, e2, e3, e4⟩
    · refine ⟨-2, fun post hp => br_f h16 (br_f hx ?_), fun post hp => br_f hy ⟨hv, br_t ?_ hp⟩⟩
      · refine cs_tgn ha hs e1 ?_
        exact br_t rfl hp
      · rw [cl]; exact e2
    · obtain ⟨r, hX, hY⟩ := ih (i + 1) (by omega) t ht
      have q : ¬ nI t = -2 := by
        intro z
        have z' := congrArg Int32.toInt z
        rw [nI_toInt (by omega), show (-2 : Int32).toInt = -2 from rfl] at z'
        omega
      have q1 : ¬ ik (4 * nI a + nI s).toNatClampNeg = 0 := by rw [cl, e3]; exact cs_1n0
      refine ⟨r, fun post hp => br_f h16 (br_f hx ?_), fun post hp => br_f hy ⟨hv, br_f q1 ⟨hv, fun w ew y ey => ?_⟩⟩⟩
      · refine cs_tgk ha hs ht e1 ?_
        refine br_f q fun y ey => ?_
        rw [ey, nI_1]; exact hX post hp
      · rw [ew, ey, cl, e4, nI_1]; exact hY post hp
theorem i_vc_follow {k : Nat} {u : SX} {v : SY} (I : i_Rel k u v) (hk : k + 5 ≤ 2560) (v1 : Int32) (v2 : Int32) (v3 : Int32) : wpX_follow (fun r => wpY_follow (fun r' => r' = r ∧ i_Rel (k + 5) u v) v v1 v2 v3) u v1 v2 v3 := by
  have J : i_Rel (k + 5) u v := I
  generalize i_Rel (k + 5) u v = R at J
  obtain ⟨f, pn, pk, on, ok, sn, sk⟩ := u
  obtain ⟨g, ik, hd, oi, oh, si, sh⟩ := v
  obtain ⟨e, hp, ho, hs⟩ := I
  dsimp only at e hp ho hs
  unfold wpX_follow
  dsimp only
  rcases cs_cell v1 v2 with hb | ⟨j, s, hj, hs4, rfl, rfl⟩
  · refine cs_xcf hb ?_
    refine br_t rfl ?_
    unfold wpY_follow
    dsimp only
    refine cs_ycf hb ?_
    exact br_f cs_1n0 ⟨rfl, J⟩
  · refine cs_xct hj hs4 ?_
    refine br_f cs_1n0 ?_
    rcases pk_ix v3 (n := 17) (by omega) with hn | hn | ⟨m, hm, rfl⟩
    · have h0 : ¬ (0 : Int32) ≤ v3 := Int32.not_le.mpr hn
      obtain ⟨r, hX, hY⟩ := cs_fol (f := f) (g := g) (on := on) (ok := ok) (sn := sn) (sk := sk) (oi := oi) (oh := oh) (si := si) (sh := sh) (x := v3) (m := 0) hs4 (by omega) (fun i hi => absurd hi (by omega)) (fun _ => Int32.le_of_lt hn) hp 0 0 rfl j hj
      refine ⟨0 + 1, hX _ ?_⟩
      unfold wpY_follow
      dsimp only
      refine cs_yct hj hs4 ?_
      exact br_t rfl (br_f h0 ⟨0 + 1, hY _ ⟨rfl, J⟩⟩)
    · have hg := cs_big (a := 16) (by decide) (by decide) hn
      have h0 : (0 : Int32) ≤ v3 := Int32.not_lt.mp hg.1
      obtain ⟨r, hX, hY⟩ := cs_fol (f := f) (g := g) (on := on) (ok := ok) (sn := sn) (sk := sk) (oi := oi) (oh := oh) (si := si) (sh := sh) (x := v3) (m := 16) hs4 (by omega) (fun i hi => (cs_big (a := i) (by decide) (by omega) hn).2) (fun z => absurd z (by omega)) hp 16 0 rfl j hj
      refine ⟨16 + 1, hX _ ?_⟩
      unfold wpY_follow
      dsimp only
      refine cs_yct hj hs4 ?_
      exact br_t rfl (br_t h0 (br_f hg.2 ⟨16 + 1, hY _ ⟨rfl, J⟩⟩))
    · have h0 : (0 : Int32) ≤ nI m := nI_pos' (by omega)
      have h16 : nI m ≤ (16 : Int32) := nI_le (b := 16) (by omega) (by decide)
      obtain ⟨r, hX, hY⟩ := cs_fol (f := f) (g := g) (on := on) (ok := ok) (sn := sn) (sk := sk) (oi := oi) (oh := oh) (si := si) (sh := sh) (x := nI m) (m := m) hs4 (by omega) (fun i hi => nI_ge hi (by omega)) (fun _ => nI_le (Nat.le_refl m) (by omega)) hp m 0 (by omega) j hj
      refine ⟨m + 1, hX _ ?_⟩
      unfold wpY_follow
      dsimp only
      refine cs_yct hj hs4 ?_
      exact br_t rfl (br_t h0 (br_t h16 ⟨m + 1, hY _ ⟨rfl, J⟩⟩))
