-- rescind: one cell of the component, one of the reference
theorem cs_div {i nd : Nat} (hi : i < 64) (hn : nd < 16) : nI i / 4 = nI nd ↔ i / 4 = nd := by
  rw [show (4 : Int32) = nI 4 from rfl, pk_div (by omega) (by omega) (by omega), nI_eq (by omega) (by omega)]
theorem cs_58 {post : Int32 → SX → Prop} {J : Int32 → Int32 → (Nat → Int32) → (Nat → Int32) → (Nat → Int32) → (Nat → Int32) → (Nat → Int32) → (Nat → Int32) → Prop} {x f : Int32} {pn pk on ok sn sk : Nat → Int32} {i : Nat} (hi : i < 64) (K : J (nI (i + 1)) f (upd pn i 0) (upd pk i 0) on ok sn sk) : wX_rescind_58 post J x (nI i) f pn pk on ok sn sk := by
  unfold wX_rescind_58
  refine cs_put hi ?_
  dsimp only
  intro y ey
  rw [ey, nI_1]; exact K
theorem cs_rxh {post : Int32 → SX → Prop} {f : Int32} {pn pk on ok sn sk : Nat → Int32} {i nd n : Nat} (hi : i < 64) (hn : nd < 16) (h : i / 4 = nd ∨ pk i = nI (nd + 1)) (K : wX_rescind_11 post (nI nd) n (nI (i + 1)) f (upd pn i 0) (upd pk i 0) on ok sn sk) : wX_rescind_11 post (nI nd) (n + 1) (nI i) f pn pk on ok sn sk := by
  have h64 : ¬ (64 : Int32) ≤ nI i := nI_ge (b := 64) hi (by decide)
  have hv : vp_in (nI i) 64 := vp_in_nI hi (by decide)
  refine br_f h64 ⟨cs_4n0, ?_⟩
  by_cases o : i / 4 = nd
  · refine br_t ((cs_div hi hn).mpr o) ⟨hv, br_c (fun _ => ?_) (fun _ => ?_)⟩
    · exact br_f cs_1n0 (cs_58 hi K)
    · exact br_f cs_1n0 (cs_58 hi K)
  · have q : pk (nI i).toNatClampNeg = nI nd + 1 := by
      rw [nI_clamp (by omega), nI_1]
      rcases h with h | h
      · exact absurd h o
      · exact h
    refine br_f (fun z => o ((cs_div hi hn).mp z)) ⟨hv, br_t q ?_⟩
    exact br_t rfl (br_f cs_1n0 (cs_58 hi K))
theorem cs_rxm {post : Int32 → SX → Prop} {f : Int32} {pn pk on ok sn sk : Nat → Int32} {i nd n : Nat} (hi : i < 64) (hn : nd < 16) (o : ¬ i / 4 = nd) (h : ¬ pk i = nI (nd + 1)) (K : wX_rescind_11 post (nI nd) n (nI (i + 1)) f pn pk on ok sn sk) : wX_rescind_11 post (nI nd) (n + 1) (nI i) f pn pk on ok sn sk := by
  have h64 : ¬ (64 : Int32) ≤ nI i := nI_ge (b := 64) hi (by decide)
  have hv : vp_in (nI i) 64 := vp_in_nI hi (by decide)
  have q : ¬ pk (nI i).toNatClampNeg = nI nd + 1 := by
    rw [nI_clamp (by omega), nI_1]; exact h
  refine br_f h64 ⟨cs_4n0, br_f (fun z => o ((cs_div hi hn).mp z)) ⟨hv, br_f q (br_t rfl (br_t rfl ?_))⟩⟩
  intro y ey
  rw [ey, nI_1]; exact K
theorem cs_43 {post : Int32 → SY → Prop} {J : Int32 → Int32 → (Nat → Int32) → (Nat → Int32) → (Nat → Int32) → (Nat → Int32) → (Nat → Int32) → (Nat → Int32) → Prop} {x g : Int32} {ik hd oi oh si sh : Nat → Int32} {i : Nat} (hi : i < 64) (K : J (nI (i + 1)) g (upd ik i 0) (upd hd i 0) oi oh si sh) : wY_rescind_43 post J x (nI i) g ik hd oi oh si sh := by
  unfold wY_rescind_43
  refine cs_set hi ?_
  dsimp only
  intro y ey
  rw [ey, nI_1, cs_n0]; exact K
theorem cs_ryh {post : Int32 → SY → Prop} {g : Int32} {ik hd oi oh si sh : Nat → Int32} {i nd n : Nat} (hi : i < 64) (hn : nd < 16) (h : i / 4 = nd ∨ (¬ ik i = 0 ∧ hd i = nI nd)) (K : wY_rescind_11 post (nI nd) n (nI (i + 1)) g (upd ik i 0) (upd hd i 0) oi oh si sh) : wY_rescind_11 post (nI nd) (n + 1) (nI i) g ik hd oi oh si sh := by
  have h64 : ¬ (64 : Int32) ≤ nI i := nI_ge (b := 64) hi (by decide)
  have hv : vp_in (nI i) 64 := vp_in_nI hi (by decide)
  refine br_f h64 ⟨cs_4n0, ?_⟩
  by_cases o : i / 4 = nd
  · exact br_t ((cs_div hi hn).mpr o) (cs_43 hi K)
  · have q : ¬ ik i = 0 ∧ hd i = nI nd := by
      rcases h with h | h
      · exact absurd h o
      · exact h
    have q1 : ¬ ik (nI i).toNatClampNeg = 0 := by rw [nI_clamp (by omega)]; exact q.1
    have q2 : hd (nI i).toNatClampNeg = nI nd := by rw [nI_clamp (by omega)]; exact q.2
    exact br_f (fun z => o ((cs_div hi hn).mp z)) ⟨hv, br_f q1 ⟨hv, br_t q2 (cs_43 hi K)⟩⟩
theorem cs_rym {post : Int32 → SY → Prop} {g : Int32} {ik hd oi oh si sh : Nat → Int32} {i nd n : Nat} (hi : i < 64) (hn : nd < 16) (o : ¬ i / 4 = nd) (h : ik i = 0 ∨ ¬ hd i = nI nd) (K : wY_rescind_11 post (nI nd) n (nI (i + 1)) g ik hd oi oh si sh) : wY_rescind_11 post (nI nd) (n + 1) (nI i) g ik hd oi oh si sh := by
  have h64 : ¬ (64 : Int32) ≤ nI i := nI_ge (b := 64) hi (by decide)
  have hv : vp_in (nI i) 64 := vp_in_nI hi (by decide)
  refine br_f h64 ⟨cs_4n0, br_f (fun z => o ((cs_div hi hn).mp z)) ⟨hv, ?_⟩⟩
  rw [nI_clamp (by omega)]
  refine br_c (fun _ y ey => ?_) (fun z => ⟨hv, br_f ?_ fun y ey => ?_⟩)
  · rw [ey, nI_1]; exact K
  · rcases h with h | h
    · exact absurd h z
    · exact h
  · rw [ey, nI_1]; exact K
theorem cs_resc {f g : Int32} {on ok sn sk oi oh si sh : Nat → Int32} {nd : Nat} (hn : nd < 16) : ∀ d i : Nat, i + d = 64 → ∀ pn pk ik hd : Nat → Int32, cs_st pn pk ik hd → ∃ pn' pk' ik' hd' : Nat → Int32, cs_st pn' pk' ik' hd' ∧
    (∀ post : Int32 → SX → Prop, post 0 (f, pn', pk', on, ok, sn, sk) → wX_rescind_11 post (nI nd) (d + 1) (nI i) f pn pk on ok sn sk) ∧
    (∀ post : Int32 → SY → Prop, post 0 (g, ik', hd', oi, oh, si, sh) → wY_rescind_11 post (nI nd) (d + 1) (nI i) g ik hd oi oh si sh) := by
  intro d
  induction d with
  | zero =>
    intro i hi pn pk ik hd H
    have h : (64 : Int32) ≤ nI i := nI_le (a := 64) (by omega) (by omega)
    exact ⟨pn, pk, ik, hd, H, fun _ hp => br_t h hp, fun _ hp => br_t h hp⟩
  | succ d ih =>
    intro i hi pn pk ik hd H
    have h64 : i < 64 := by omega
    by_cases o : i / 4 = nd
    · obtain ⟨a, b, c, e, S, hX, hY⟩ := ih (i + 1) (by omega) (upd pn i 0) (upd pk i 0) (upd ik i 0) (upd hd i 0) (cs_upd H i cs_ce0)
      exact ⟨a, b, c, e, S, fun post hp => cs_rxh h64 hn (Or.inl o) (hX post hp), fun post hp => cs_ryh h64 hn (Or.inl o) (hY post hp)⟩
    · rcases H i with ⟨e1, e2, e3⟩ | ⟨t, ht, e1, e2, e3, e4⟩
      · obtain ⟨a, b, c, e, S, hX, hY⟩ := ih (i + 1) (by omega) pn pk ik hd H
        have q : ¬ pk i = nI (nd + 1) := by
          rw [e1]; exact fun z => nI_ne0 (n := nd + 1) (by omega) (by omega) z.symm
        exact ⟨a, b, c, e, S, fun post hp => cs_rxm h64 hn o q (hX post hp), fun post hp => cs_rym h64 hn o (Or.inl e2) (hY post hp)⟩
      · by_cases et : t = nd
        · subst et
          obtain ⟨a, b, c, e, S, hX, hY⟩ := ih (i + 1) (by omega) (upd pn i 0) (upd pk i 0) (upd ik i 0) (upd hd i 0) (cs_upd H i cs_ce0)
          have q : ¬ ik i = 0 := by rw [e3]; exact cs_1n0
          exact ⟨a, b, c, e, S, fun post hp => cs_rxh h64 hn (Or.inr e1) (hX post hp), fun post hp => cs_ryh h64 hn (Or.inr ⟨q, e4⟩) (hY post hp)⟩
        · obtain ⟨a, b, c, e, S, hX, hY⟩ := ih (i + 1) (by omega) pn pk ik hd H
          have q : ¬ pk i = nI (nd + 1) := by
            rw [e1, nI_eq (by omega) (by omega)]; omega
          have q2 : ¬ hd i = nI nd := by
            rw [e4, nI_eq (by omega) (by omega)]; exact et
          exact ⟨a, b, c, e, S, fun post hp => cs_rxm h64 hn o q (hX post hp), fun post hp => cs_rym h64 hn o (Or.inr q2) (hY post hp)⟩
theorem i_vc_rescind {k : Nat} {u : SX} {v : SY} (I : i_Rel k u v) (hk : k + 5 ≤ 2560) (v1 : Int32) : wpX_rescind (fun r u' => wpY_rescind (fun r' v' => r' = r ∧ i_Rel (k + 5) u' v') v v1) u v1 := by
  obtain ⟨f, pn, pk, on, ok, sn, sk⟩ := u
  obtain ⟨g, ik, hd, oi, oh, si, sh⟩ := v
  obtain ⟨e, hp, ho, hs⟩ := I
  dsimp only at e hp ho hs
  unfold wpX_rescind
  dsimp only
  rcases cs_node v1 with hb | ⟨nd, hn, rfl⟩
  · refine cs_xnf hb ?_
    refine br_t rfl ?_
    unfold wpY_rescind
    dsimp only
    refine cs_ynf hb ?_
    exact br_f cs_1n0 ⟨rfl, e, hp, ho, hs⟩
  · obtain ⟨a, b, c, d, S, hX, hY⟩ := cs_resc (f := f) (g := g) (on := on) (ok := ok) (sn := sn) (sk := sk) (oi := oi) (oh := oh) (si := si) (sh := sh) hn 64 0 rfl pn pk ik hd hp
    refine cs_xnt hn ?_
    refine br_f cs_1n0 ⟨64 + 1, hX _ ?_⟩
    unfold wpY_rescind
    dsimp only
    refine cs_ynt hn ?_
    exact br_t rfl ⟨64 + 1, hY _ ⟨rfl, e, S, ho, hs⟩⟩
-- keysTo
theorem cs_keys {f g : Int32} {pn pk on ok sn sk ik hd oi oh si sh : Nat → Int32} {nd : Nat} (hn : nd < 16) (H : cs_st pn pk ik hd) : ∀ d i : Nat, i + d = 64 → ∀ c : Int32, ∃ r : Int32,
    (∀ post : Int32 → Prop, post r → wX_keysTo_13 post (nI nd) f pn pk on ok sn sk (d + 1) c (nI i)) ∧
    (∀ post : Int32 → Prop, post r → wY_keysTo_13 post (nI nd) g ik hd oi oh si sh (d + 1) c (nI i)) := by
  intro d
  induction d with
  | zero =>
    intro i hi c
    have h : (64 : Int32) ≤ nI i := nI_le (a := 64) (by omega) (by omega)
    exact ⟨c, fun _ hp => br_t h hp, fun _ hp => br_t h hp⟩
  | succ d ih =>
    intro i hi c
    have h64 : ¬ (64 : Int32) ≤ nI i := nI_ge (b := 64) (by omega) (by decide)
    have hv : vp_in (nI i) 64 := vp_in_nI (by omega) (by decide)
    have cl : (nI i).toNatClampNeg = i := nI_clamp (by omega)
    rcases H i with ⟨e1, e2, e3⟩ | ⟨t, ht, e1, e2, e3, e4⟩
    · obtain ⟨r, hX, hY⟩ := ih (i + 1) (by omega) c
      have q : ¬ pk (nI i).toNatClampNeg = nI nd + 1 := by
        rw [cl, nI_1, e1]; exact fun z => nI_ne0 (n := nd + 1) (by omega) (by omega) z.symm
      have q1 : ik (nI i).toNatClampNeg = 0 := by rw [cl]; exact e2
      refine ⟨r, fun post hp => br_f h64 ⟨hv, br_f q fun y ey => ?_⟩, fun post hp => br_f h64 ⟨hv, br_t q1 fun y ey => ?_⟩⟩
      · rw [ey, nI_1]; exact hX post hp
      · rw [ey, nI_1]; exact hY post hp
    · have q1 : ¬ ik (nI i).toNatClampNeg = 0 := by rw [cl, e3]; exact cs_1n0
      by_cases et : t = nd
      · subst et
        obtain ⟨r, hX, hY⟩ := ih (i + 1) (by omega) (c + 1)
        have q : pk (nI i).toNatClampNeg = nI t + 1 := by rw [cl, nI_1]; exact e1
        have q2 : hd (nI i).toNatClampNeg = nI t := by rw [cl]; exact e4
        refine ⟨r, fun post hp => br_f h64 ⟨hv, br_t q fun w ew y ey => ?_⟩, fun post hp => br_f h64 ⟨hv, br_f q1 ⟨hv, br_t q2 fun w ew y ey => ?_⟩⟩⟩
        · rw [ew, ey, nI_1]; exact hX post hp
        · rw [ew, ey, nI_1]; exact hY post hp
      · obtain ⟨r, hX, hY⟩ := ih (i + 1) (by omega) c
        have q : ¬ pk (nI i).toNatClampNeg = nI nd + 1 := by
          rw [cl, nI_1, e1, nI_eq (by omega) (by omega)]; omega
        have q2 : ¬ hd (nI i).toNatClampNeg = nI nd := by
          rw [cl, e4, nI_eq (by omega) (by omega)]; exact et
        refine ⟨r, fun post hp => br_f h64 ⟨hv, br_f q fun y ey => ?_⟩, fun post hp => br_f h64 ⟨hv, br_f q1 ⟨hv, br_f q2 fun y ey => ?_⟩⟩⟩
        · rw [ey, nI_1]; exact hX post hp
        · rw [ey, nI_1]; exact hY post hp
theorem i_vc_keysTo {k : Nat} {u : SX} {v : SY} (I : i_Rel k u v) (hk : k + 5 ≤ 2560) (v1 : Int32) : wpX_keysTo (fun r => wpY_keysTo (fun r' => r' = r ∧ i_Rel (k + 5) u v) v v1) u v1 := by
  have J : i_Rel (k + 5) u v := I
  generalize i_Rel (k + 5) u v = R at J
  obtain ⟨f, pn, pk, on, ok, sn, sk⟩ := u
  obtain ⟨g, ik, hd, oi, oh, si, sh⟩ := v
  obtain ⟨e, hp, ho, hs⟩ := I
  dsimp only at e hp ho hs
  unfold wpX_keysTo
  dsimp only
  rcases cs_node v1 with hb | ⟨nd, hn, rfl⟩
  · refine cs_xnf hb ?_
    refine br_t rfl ?_
    unfold wpY_keysTo
    dsimp only
    refine cs_ynf hb ?_
    exact br_f cs_1n0 ⟨rfl, J⟩
  · obtain ⟨r, hX, hY⟩ := cs_keys (f := f) (g := g) (on := on) (ok := ok) (sn := sn) (sk := sk) (oi := oi) (oh := oh) (si := si) (sh := sh) hn hp 64 0 rfl 0
    refine cs_xnt hn ?_
    refine br_f cs_1n0 ⟨64 + 1, hX _ ?_⟩
    unfold wpY_keysTo
    dsimp only
    refine cs_ynt hn ?_
    exact br_t rfl ⟨64 + 1, hY _ ⟨rfl, J⟩⟩
