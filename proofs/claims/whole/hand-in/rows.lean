section
theorem pk_us {f : Nat → Int32} {k : Nat} {x : Int32} : upd f k x k = x := if_pos rfl
theorem pk_un {f : Nat → Int32} {k j : Nat} {x : Int32} (h : j ≠ k) : upd f k x j = f j := if_neg h
theorem pk_mul (a b : Nat) : nI a * nI b = nI (a * b) := (Int32.ofNat_mul a b).symm
theorem pk_div {a d : Nat} (ha : a < 2 ^ 31) (h0 : 0 < d) (hd : d < 2 ^ 31) : nI a / nI d = nI (a / d) := by
  apply Int32.toInt_inj.mp
  rw [lg_idiv_nonneg (by rw [nI_toInt ha]; omega) (by rw [nI_toInt hd]; omega), nI_toInt ha, nI_toInt hd, nI_toInt (Nat.lt_of_le_of_lt (Nat.div_le_self a d) ha)]
  first | rfl | exact (Int.natCast_ediv _ _).symm
theorem pk_ix (x : Int32) {n : Nat} (hn : n < 2 ^ 31) : x < 0 ∨ nI n ≤ x ∨ ∃ j : Nat, j < n ∧ x = nI j := by
  by_cases h : x < 0
  · exact Or.inl h
  · obtain ⟨j, hj, rfl⟩ := nI_of h
    by_cases h2 : j < n
    · exact Or.inr (Or.inr ⟨j, h2, rfl⟩)
    · exact Or.inr (Or.inl (nI_le (by omega) hj))
/-- one cell: the component's number and key (0: none, node + 1) against the reference's mark and content -/
def cs_ce (pn pk ik h : Int32) : Prop := (pk = 0 ∧ ik = 0 ∧ h = pn) ∨ ∃ t : Nat, t < 16 ∧ pk = nI (t + 1) ∧ pn = 0 ∧ ik = 1 ∧ h = nI t
/-- one store, cell by cell -/
def cs_st (pn pk ik h : Nat → Int32) : Prop := ∀ j : Nat, cs_ce (pn j) (pk j) (ik j) (h j)
/-- the mark of an open snapshot is the same, and the present, the open and the settled store agree -/
def i_Rel (_ : Nat) (u : SX) (v : SY) : Prop := v.1 = u.1 ∧ cs_st u.2.1 u.2.2.1 v.2.1 v.2.2.1 ∧ cs_st u.2.2.2.1 u.2.2.2.2.1 v.2.2.2.1 v.2.2.2.2.1 ∧ cs_st u.2.2.2.2.2.1 u.2.2.2.2.2.2 v.2.2.2.2.2.1 v.2.2.2.2.2.2
theorem i_up {k : Nat} {u : SX} {v : SY} (h : i_Rel k u v) : i_Rel (k + 5) u v := h
theorem cs_ce0 : cs_ce 0 0 0 0 := Or.inl ⟨rfl, rfl, rfl⟩
theorem i_vc0 : wpX_init (fun u => wpY_init (fun v => i_Rel 0 u v)) := ⟨rfl, fun _ => cs_ce0, fun _ => cs_ce0, fun _ => cs_ce0⟩
theorem cs_n0 : vp_nar .boolean 0 = 0 := rfl
theorem cs_n1 : vp_nar .boolean 1 = 1 := rfl
theorem cs_nar {pn pk ik h : Int32} (H : cs_ce pn pk ik h) : vp_nar .boolean ik = ik := by
  rcases H with ⟨_, e, _⟩ | ⟨t, _, _, _, e, _⟩
  · rw [e]; exact cs_n0
  · rw [e]; exact cs_n1
theorem cs_1n0 : ¬ (1 : Int32) = 0 := by decide
theorem cs_4n0 : ¬ (4 : Int32) = 0 := by decide
theorem cs_upd {pn pk ik h : Nat → Int32} (H : cs_st pn pk ik h) (i : Nat) {a b c d : Int32} (K : cs_ce a b c d) : cs_st (upd pn i a) (upd pk i b) (upd ik i c) (upd h i d) := by
  intro j
  by_cases e : j = i
  · subst e
    rw [pk_us, pk_us, pk_us, pk_us]; exact K
  · rw [pk_un e, pk_un e, pk_un e, pk_un e]; exact H j
/-- the six arrays of a copy: cells below 64 from one store, the others as they were -/
theorem cs_cpy {pn pk ik h on ok oi oh a b c d : Nat → Int32} (H : cs_st pn pk ik h) (O : cs_st on ok oi oh)
    (ha : ∀ j, a j = if j < 64 then pn j else on j) (hb : ∀ j, b j = if j < 64 then pk j else ok j)
    (hc : ∀ j, c j = if j < 64 then vp_nar .boolean (ik j) else oi j) (hd : ∀ j, d j = if j < 64 then h j else oh j) : cs_st a b c d := by
  intro j
  rw [ha j, hb j, hc j, hd j]
  by_cases e : j < 64
  · rw [if_pos e, if_pos e, if_pos e, if_pos e, cs_nar (H j)]; exact H j
  · rw [if_neg e, if_neg e, if_neg e, if_neg e]; exact O j
-- which node and slot numbers are good
def cs_bn (x : Int32) : Prop := x < 0 ∨ nI 16 ≤ x
def cs_bs (x : Int32) : Prop := x < 0 ∨ nI 4 ≤ x
theorem cs_node (x : Int32) : cs_bn x ∨ ∃ j : Nat, j < 16 ∧ x = nI j := by
  rcases pk_ix x (n := 16) (by omega) with h | h | h
  · exact Or.inl (Or.inl h)
  · exact Or.inl (Or.inr h)
  · exact Or.inr h
theorem cs_slot (x : Int32) : cs_bs x ∨ ∃ j : Nat, j < 4 ∧ x = nI j := by
  rcases pk_ix x (n := 4) (by omega) with h | h | h
  · exact Or.inl (Or.inl h)
  · exact Or.inl (Or.inr h)
  · exact Or.inr h
theorem cs_cell (x y : Int32) : (cs_bn x ∨ (∃ j : Nat, j < 16 ∧ x = nI j) ∧ cs_bs y) ∨ ∃ j s : Nat, j < 16 ∧ s < 4 ∧ x = nI j ∧ y = nI s := by
  rcases cs_node x with h | ⟨j, hj, ej⟩
  · exact Or.inl (Or.inl h)
  · rcases cs_slot y with h | ⟨s, hs, es⟩
    · exact Or.inl (Or.inr ⟨⟨j, hj, ej⟩, h⟩)
    · exact Or.inr ⟨j, s, hj, hs, ej, es⟩
theorem cs_big {x : Int32} {a b : Nat} (hb : b < 2 ^ 31) (hab : a < b) (h : nI b ≤ x) : ¬ x < 0 ∧ ¬ x ≤ nI a := by
  have e : (nI b).toInt = b := nI_toInt hb
  have e' : (nI a).toInt = a := nI_toInt (by omega)
  have h' := Int32.le_iff_toInt_le.mp h
  refine ⟨fun z => ?_, fun z => ?_⟩
  · have z' := Int32.lt_iff_toInt_lt.mp z
    rw [e] at h'
    rw [show (0 : Int32).toInt = 0 from rfl] at z'
    omega
  · have z' := Int32.le_iff_toInt_le.mp z
    omega
theorem cs_xnt {post : Int32 → Prop} {j : Nat} (hj : j < 16) (h : post 1) : wpX_isNode post (nI j) :=
  br_f (nI_pos (by omega)) (br_f (nI_ge (b := 16) hj (by decide)) h)
theorem cs_xnf {post : Int32 → Prop} {x : Int32} (hx : cs_bn x) (h : post 0) : wpX_isNode post x := by
  rcases hx with hx | hx
  · exact br_t hx h
  · exact br_f (cs_big (a := 15) (by decide) (by decide) hx).1 (br_t hx h)
theorem cs_ynt {post : Int32 → Prop} {j : Nat} (hj : j < 16) (h : post 0) : wpY_badNode post (nI j) :=
  br_f (nI_pos (by omega)) (br_t (nI_le (b := 15) (by omega) (by decide)) h)
theorem cs_ynf {post : Int32 → Prop} {x : Int32} (hx : cs_bn x) (h : post 1) : wpY_badNode post x := by
  rcases hx with hx | hx
  · exact br_t hx h
  · exact br_f (cs_big (a := 15) (by decide) (by decide) hx).1 (br_f (cs_big (a := 15) (by decide) (by decide) hx).2 h)
theorem cs_xct {post : Int32 → Prop} {j s : Nat} (hj : j < 16) (hs : s < 4) (h : post 1) : wpX_isCell post (nI j) (nI s) := by
  unfold wpX_isCell
  refine cs_xnt hj ?_
  exact br_f cs_1n0 (br_f (nI_pos (by omega)) (br_f (nI_ge (b := 4) hs (by decide)) h))
theorem cs_xcf {post : Int32 → Prop} {x y : Int32} (hx : cs_bn x ∨ (∃ j : Nat, j < 16 ∧ x = nI j) ∧ cs_bs y) (h : post 0) : wpX_isCell post x y := by
  unfold wpX_isCell
  rcases hx with hx | ⟨⟨j, hj, rfl⟩, hy⟩
  · refine cs_xnf hx ?_
    exact br_t rfl h
  · refine cs_xnt hj ?_
    refine br_f cs_1n0 ?_
    rcases hy with hy | hy
    · exact br_t hy h
    · exact br_f (cs_big (a := 3) (by decide) (by decide) hy).1 (br_t hy h)
theorem cs_yct {post : Int32 → Prop} {j s : Nat} (hj : j < 16) (hs : s < 4) (h : post 0) : wpY_bad post (nI j) (nI s) := by
  unfold wpY_bad
  refine cs_ynt hj ?_
  exact br_t rfl (br_f (nI_pos (by omega)) (br_t (nI_le (b := 3) (by omega) (by decide)) h))
theorem cs_ycf {post : Int32 → Prop} {x y : Int32} (hx : cs_bn x ∨ (∃ j : Nat, j < 16 ∧ x = nI j) ∧ cs_bs y) (h : post 1) : wpY_bad post x y := by
  unfold wpY_bad
  rcases hx with hx | ⟨⟨j, hj, rfl⟩, hy⟩
  · refine cs_ynf hx ?_
    exact br_f cs_1n0 h
  · refine cs_ynt hj ?_
    refine br_t rfl ?_
    rcases hy with hy | hy
    · exact br_t hy h
    · exact br_f (cs_big (a := 3) (by decide) (by decide) hy).1 (br_f (cs_big (a := 3) (by decide) (by decide) hy).2 h)
theorem cs_xc (j s : Nat) : nI j * 4 + nI s = nI (4 * j + s) := by
  rw [show (4 : Int32) = nI 4 from rfl, pk_mul, nI_add, Nat.mul_comm]
theorem cs_yc (j s : Nat) : 4 * nI j + nI s = nI (4 * j + s) := by
  rw [show (4 : Int32) = nI 4 from rfl, pk_mul, nI_add]
theorem cs_cof {post : Int32 → Prop} {j s : Nat} (h : post (nI (4 * j + s))) : wpX_cellOf post (nI j) (nI s) := by
  unfold wpX_cellOf
  rw [cs_xc]; exact h
theorem cs_put {post : SX → Prop} {f : Int32} {pn pk on ok sn sk : Nat → Int32} {c : Nat} {y : Int32} (hc : c < 64) (h : post (f, upd pn c y, upd pk c 0, on, ok, sn, sk)) : wpX_putNumber post (f, pn, pk, on, ok, sn, sk) (nI c) y := by
  have hi : vp_in (nI c) 64 := vp_in_nI hc (by decide)
  unfold wpX_putNumber
  refine ⟨hi, fun a ea => ⟨hi, fun b eb => ?_⟩⟩
  rw [ea, eb, nI_clamp (by omega)]; exact h
theorem cs_set {post : SY → Prop} {g : Int32} {ik hd oi oh si sh : Nat → Int32} {c : Nat} {y z : Int32} (hc : c < 64) (h : post (g, upd ik c (vp_nar .boolean y), upd hd c z, oi, oh, si, sh)) : wpY_set post (g, ik, hd, oi, oh, si, sh) (nI c) y z := by
  have hi : vp_in (nI c) 64 := vp_in_nI hc (by decide)
  unfold wpY_set
  refine ⟨hi, fun a ea => ⟨hi, fun b eb => ?_⟩⟩
  rw [ea, eb, nI_clamp (by omega)]; exact h
theorem cs_tgn {post : Int32 → Prop} {f : Int32} {pn pk on ok sn sk : Nat → Int32} {j s : Nat} (hj : j < 16) (hs : s < 4) (e : pk (4 * j + s) = 0) (h : post (-2)) : wpX_targetOf post (f, pn, pk, on, ok, sn, sk) (nI j) (nI s) := by
  unfold wpX_targetOf
  refine cs_cof ?_
  refine ⟨vp_in_nI (by omega) (by decide), ?_⟩
  rw [nI_clamp (by omega), e]
  exact br_t rfl h
theorem cs_tgk {post : Int32 → Prop} {f : Int32} {pn pk on ok sn sk : Nat → Int32} {j s t : Nat} (hj : j < 16) (hs : s < 4) (ht : t < 16) (e : pk (4 * j + s) = nI (t + 1)) (h : post (nI t)) : wpX_targetOf post (f, pn, pk, on, ok, sn, sk) (nI j) (nI s) := by
  unfold wpX_targetOf
  refine cs_cof ?_
  refine ⟨vp_in_nI (by omega) (by decide), ?_⟩
  rw [nI_clamp (by omega), e]
  refine br_f (nI_ne0 (by omega) (by omega)) ⟨vp_in_nI (by omega) (by decide), ?_⟩
  rw [nI_pred]; exact h
end
section
theorem i_vc_write {k : Nat} {u : SX} {v : SY} (I : i_Rel k u v) (hk : k + 5 ≤ 2560) (v1 : Int32) (v2 : Int32) (v3 : Int32) : wpX_write (fun r u' => wpY_write (fun r' v' => r' = r ∧ i_Rel (k + 5) u' v') v v1 v2 v3) u v1 v2 v3 := by
  obtain ⟨f, pn, pk, on, ok, sn, sk⟩ := u
  obtain ⟨g, ik, hd, oi, oh, si, sh⟩ := v
  obtain ⟨e, hp, ho, hs⟩ := I
  dsimp only at e hp ho hs
  unfold wpX_write
  dsimp only
  rcases cs_cell v1 v2 with hb | ⟨j, s, hj, hs4, rfl, rfl⟩
  · refine cs_xcf hb ?_
    refine br_t rfl ?_
    unfold wpY_write
    dsimp only
    refine cs_ycf hb ?_
    exact br_f cs_1n0 ⟨rfl, e, hp, ho, hs⟩
  · have hc : 4 * j + s < 64 := by omega
    refine cs_xct hj hs4 ?_
    refine br_f cs_1n0 ?_
    refine cs_cof ?_
    refine cs_put hc ?_
    unfold wpY_write
    dsimp only
    refine cs_yct hj hs4 ?_
    refine br_t rfl ?_
    rw [cs_yc]
    refine cs_set hc ?_
    dsimp only
    exact ⟨rfl, e, cs_upd hp _ (Or.inl ⟨rfl, cs_n0, rfl⟩), ho, hs⟩
theorem i_vc_writeKey {k : Nat} {u : SX} {v : SY} (I : i_Rel k u v) (hk : k + 5 ≤ 2560) (v1 : Int32) (v2 : Int32) (v3 : Int32) : wpX_writeKey (fun r u' => wpY_writeKey (fun r' v' => r' = r ∧ i_Rel (k + 5) u' v') v v1 v2 v3) u v1 v2 v3 := by
  obtain ⟨f, pn, pk, on, ok, sn, sk⟩ := u
  obtain ⟨g, ik, hd, oi, oh, si, sh⟩ := v
  obtain ⟨e, hp, ho, hs⟩ := I
  dsimp only at e hp ho hs
  unfold wpX_writeKey
  dsimp only
  rcases cs_cell v1 v2 with hb | ⟨j, s, hj, hs4, rfl, rfl⟩
  · refine cs_xcf hb ?_
    refine br_t rfl ?_
    unfold wpY_writeKey
    dsimp only
    refine cs_ycf hb ?_
    exact br_f cs_1n0 ⟨rfl, e, hp, ho, hs⟩
  · have hc : 4 * j + s < 64 := by omega
    refine cs_xct hj hs4 ?_
    refine br_f cs_1n0 ?_
    rcases cs_node v3 with hb | ⟨t, ht, rfl⟩
    · refine cs_xnf hb ?_
      refine br_t rfl ?_
      unfold wpY_writeKey
      dsimp only
      refine cs_yct hj hs4 ?_
      refine br_t rfl ?_
      refine cs_ynf hb ?_
      exact br_f cs_1n0 ⟨rfl, e, hp, ho, hs⟩
    · refine cs_xnt ht ?_
      refine br_f cs_1n0 ?_
      refine cs_cof ?_
      have hi : vp_in (nI (4 * j + s)) 64 := vp_in_nI hc (by decide)
      refine ⟨hi, fun a ea => ⟨hi, fun b eb => ?_⟩⟩
      rw [ea, eb, nI_clamp (by omega)]
      unfold wpY_writeKey
      dsimp only
      refine cs_yct hj hs4 ?_
      refine br_t rfl ?_
      refine cs_ynt ht ?_
      refine br_t rfl ?_
      rw [cs_yc]
      refine cs_set hc ?_
      dsimp only
      exact ⟨rfl, e, cs_upd hp _ (Or.inr ⟨t, ht, nI_1 t, rfl, cs_n1, rfl⟩), ho, hs⟩
theorem i_vc_copy {k : Nat} {u : SX} {v : SY} (I : i_Rel k u v) (hk : k + 5 ≤ 2560) (v1 : Int32) (v2 : Int32) (v3 : Int32) (v4 : Int32) : wpX_copy (fun r u' => wpY_copy (fun r' v' => r' = r ∧ i_Rel (k + 5) u' v') v v1 v2 v3 v4) u v1 v2 v3 v4 := by
  obtain ⟨f, pn, pk, on, ok, sn, sk⟩ := u
  obtain ⟨g, ik, hd, oi, oh, si, sh⟩ := v
  obtain ⟨e, hp, ho, hs⟩ := I
  dsimp only at e hp ho hs
  unfold wpX_copy
  dsimp only
  rcases cs_cell v1 v2 with hb | ⟨j, s, hj, hs4, rfl, rfl⟩
  · refine cs_xcf hb ?_
    refine br_t rfl ?_
    unfold wpY_copy
    dsimp only
    refine cs_ycf hb ?_
    exact br_f cs_1n0 ⟨rfl, e, hp, ho, hs⟩
  · have hc : 4 * j + s < 64 := by omega
    refine cs_xct hj hs4 ?_
    refine br_f cs_1n0 ?_
    rcases cs_cell v3 v4 with hb | ⟨j', s', hj', hs4', rfl, rfl⟩
    · refine cs_xcf hb ?_
      refine br_t rfl ?_
      unfold wpY_copy
      dsimp only
      refine cs_yct hj hs4 ?_
      refine br_t rfl ?_
      refine cs_ycf hb ?_
      exact br_f cs_1n0 ⟨rfl, e, hp, ho, hs⟩
    · have hc' : 4 * j' + s' < 64 := by omega
      refine cs_xct hj' hs4' ?_
      refine br_f cs_1n0 ?_
      refine cs_cof ?_
      refine cs_cof ?_
      have hi : vp_in (nI (4 * j + s)) 64 := vp_in_nI hc (by decide)
      have hi' : vp_in (nI (4 * j' + s')) 64 := vp_in_nI hc' (by decide)
      refine ⟨hi, hi', fun a ea => ⟨hi, hi', fun b eb => ?_⟩⟩
      rw [ea, eb, nI_clamp (n := 4 * j + s) (by omega), nI_clamp (n := 4 * j' + s') (by omega)]
      unfold wpY_copy
      dsimp only
      refine cs_yct hj hs4 ?_
      refine br_t rfl ?_
      refine cs_yct hj' hs4' ?_
      refine br_t rfl ?_
      rw [cs_yc, cs_yc, nI_clamp (n := 4 * j + s) (by omega)]
      refine ⟨hi, hi, ?_⟩
      refine cs_set hc' ?_
      dsimp only
      have hce := hp (4 * j + s)
      rw [cs_nar hce]
      exact ⟨rfl, e, cs_upd hp _ hce, ho, hs⟩
theorem i_vc_key {k : Nat} {u : SX} {v : SY} (I : i_Rel k u v) (hk : k + 5 ≤ 2560) (v1 : Int32) (v2 : Int32) : wpX_key (fun r => wpY_key (fun r' => r' = r ∧ i_Rel (k + 5) u v) v v1 v2) u v1 v2 := by
  have J : i_Rel (k + 5) u v := I
  generalize i_Rel (k + 5) u v = R at J
  obtain ⟨f, pn, pk, on, ok, sn, sk⟩ := u
  obtain ⟨g, ik, hd, oi, oh, si, sh⟩ := v
  obtain ⟨e, hp, ho, hs⟩ := I
  dsimp only at e hp ho hs
  unfold wpX_key
  dsimp only
  rcases cs_cell v1 v2 with hb | ⟨j, s, hj, hs4, rfl, rfl⟩
  · refine cs_xcf hb ?_
    refine br_t rfl ?_
    unfold wpY_key
    dsimp only
    refine cs_ycf hb ?_
    exact br_f cs_1n0 ⟨rfl, J⟩
  · have hi : vp_in (nI (4 * j + s)) 64 := vp_in_nI (by omega) (by decide)
    refine cs_xct hj hs4 ?_
    refine br_f cs_1n0 ?_
    rcases hp (4 * j + s) with ⟨e1, e2, e3⟩ | ⟨t, ht, e1, e2, e3, e4⟩
    · refine cs_tgn hj hs4 e1 ?_
      unfold wpY_key
      dsimp only
      refine cs_yct hj hs4 ?_
      refine br_t rfl ?_
      rw [cs_yc, nI_clamp (by omega), e2]
      exact ⟨hi, br_t rfl ⟨rfl, J⟩⟩
    · refine cs_tgk hj hs4 ht e1 ?_
      unfold wpY_key
      dsimp only
      refine cs_yct hj hs4 ?_
      refine br_t rfl ?_
      rw [cs_yc, nI_clamp (by omega), e3, e4]
      exact ⟨hi, br_f cs_1n0 ⟨hi, rfl, J⟩⟩
theorem i_vc_number {k : Nat} {u : SX} {v : SY} (I : i_Rel k u v) (hk : k + 5 ≤ 2560) (v1 : Int32) (v2 : Int32) : wpX_number (fun r => wpY_number (fun r' => r' = r ∧ i_Rel (k + 5) u v) v v1 v2) u v1 v2 := by
  have J : i_Rel (k + 5) u v := I
  generalize i_Rel (k + 5) u v = R at J
  obtain ⟨f, pn, pk, on, ok, sn, sk⟩ := u
  obtain ⟨g, ik, hd, oi, oh, si, sh⟩ := v
  obtain ⟨e, hp, ho, hs⟩ := I
  dsimp only at e hp ho hs
  unfold wpX_number
  dsimp only
  rcases cs_cell v1 v2 with hb | ⟨j, s, hj, hs4, rfl, rfl⟩
  · refine cs_xcf hb ?_
    refine br_t rfl ?_
    unfold wpY_number
    dsimp only
    refine cs_ycf hb ?_
    exact br_f cs_1n0 ⟨rfl, J⟩
  · have hi : vp_in (nI (4 * j + s)) 64 := vp_in_nI (by omega) (by decide)
    refine cs_xct hj hs4 ?_
    refine br_f cs_1n0 ?_
    refine cs_cof ?_
    refine ⟨hi, ?_⟩
    unfold wpY_number
    dsimp only
    refine cs_yct hj hs4 ?_
    refine br_t rfl ?_
    rw [cs_yc, nI_clamp (by omega)]
    rcases hp (4 * j + s) with ⟨e1, e2, e3⟩ | ⟨t, ht, e1, e2, e3, e4⟩
    · exact ⟨hi, br_t e2 ⟨hi, e3, J⟩⟩
    · rw [e3, e2]
      exact ⟨hi, br_f cs_1n0 ⟨rfl, J⟩⟩
theorem i_vc_idle {k : Nat} {u : SX} {v : SY} (I : i_Rel k u v) (hk : k + 5 ≤ 2560) (v1 : Int32) : wpX_idle (fun u' => wpY_idle (fun v' => i_Rel (k + 5) u' v') v v1) u v1 := I
end
section
theorem cs_x_pn_on (post : SX → Prop) (f : Int32) : ∀ d i : Nat, i + d = 64 → ∀ pn pk on ok sn sk : Nat → Int32, (∀ b : Nat → Int32, (∀ j, b j = if i ≤ j ∧ j < 64 then pn j else on j) → post (f, pn, pk, b, ok, sn, sk)) → wX_copyCells__presentNumbers_openNumbers_2 post f (d + 1) (nI i) pn pk on ok sn sk := by
  intro d
  induction d with
  | zero =>
    intro i hi pn pk on ok sn sk H
    have h : (64 : Int32) ≤ nI i := nI_le (a := 64) (by omega) (by omega)
    exact br_t h (H on fun j => by rw [if_neg (by omega)])
  | succ d ih =>
    intro i hi pn pk on ok sn sk H
    have h : ¬ (64 : Int32) ≤ nI i := nI_ge (b := 64) (by omega) (by decide)
    have hv : vp_in (nI i) 64 := vp_in_nI (by omega) (by decide)
    refine br_f h ⟨hv, hv, fun c ec y ey => ?_⟩
    rw [ec, ey, nI_1, nI_clamp (by omega)]
    refine ih (i + 1) (by omega) pn pk (upd on i (pn i)) ok sn sk fun b hb => H b fun j => ?_
    rw [hb j]
    by_cases e : j = i
    · subst e
      rw [if_neg (by omega), if_pos (by omega), pk_us]
    · rw [pk_un e]
      by_cases e2 : i ≤ j ∧ j < 64
      · rw [if_pos e2, if_pos (by omega)]
      · rw [if_neg e2, if_neg (by omega)]
theorem cs_p_pn_on {post : SX → Prop} {f : Int32} {pn pk on ok sn sk : Nat → Int32} (H : ∀ b : Nat → Int32, (∀ j, b j = if j < 64 then pn j else on j) → post (f, pn, pk, b, ok, sn, sk)) : wpX_copyCells__presentNumbers_openNumbers post (f, pn, pk, on, ok, sn, sk) := by
  unfold wpX_copyCells__presentNumbers_openNumbers
  refine ⟨64 + 1, cs_x_pn_on post f 64 0 rfl pn pk on ok sn sk fun b hb => H b fun j => ?_⟩
  rw [hb j]
  by_cases e : j < 64
  · rw [if_pos e, if_pos ⟨Nat.zero_le j, e⟩]
  · rw [if_neg e, if_neg (fun z => e z.2)]
theorem cs_x_pk_ok (post : SX → Prop) (f : Int32) : ∀ d i : Nat, i + d = 64 → ∀ pn pk on ok sn sk : Nat → Int32, (∀ b : Nat → Int32, (∀ j, b j = if i ≤ j ∧ j < 64 then pk j else ok j) → post (f, pn, pk, on, b, sn, sk)) → wX_copyCells__presentKeys_openKeys_2 post f (d + 1) (nI i) pn pk on ok sn sk := by
  intro d
  induction d with
  | zero =>
    intro i hi pn pk on ok sn sk H
    have h : (64 : Int32) ≤ nI i := nI_le (a := 64) (by omega) (by omega)
    exact br_t h (H ok fun j => by rw [if_neg (by omega)])
  | succ d ih =>
    intro i hi pn pk on ok sn sk H
    have h : ¬ (64 : Int32) ≤ nI i := nI_ge (b := 64) (by omega) (by decide)
    have hv : vp_in (nI i) 64 := vp_in_nI (by omega) (by decide)
    refine br_f h ⟨hv, hv, fun c ec y ey => ?_⟩
    rw [ec, ey, nI_1, nI_clamp (by omega)]
    refine ih (i + 1) (by omega) pn pk on (upd ok i (pk i)) sn sk fun b hb => H b fun j => ?_
    rw [hb j]
    by_cases e : j = i
    · subst e
      rw [if_neg (by omega), if_pos (by omega), pk_us]
    · rw [pk_un e]
      by_cases e2 : i ≤ j ∧ j < 64
      · rw [if_pos e2, if_pos (by omega)]
      · rw [if_neg e2, if_neg (by omega)]
theorem cs_p_pk_ok {post : SX → Prop} {f : Int32} {pn pk on ok sn sk : Nat → Int32} (H : ∀ b : Nat → Int32, (∀ j, b j = if j < 64 then pk j else ok j) → post (f, pn, pk, on, b, sn, sk)) : wpX_copyCells__presentKeys_openKeys post (f, pn, pk, on, ok, sn, sk) := by
  unfold wpX_copyCells__presentKeys_openKeys
  refine ⟨64 + 1, cs_x_pk_ok post f 64 0 rfl pn pk on ok sn sk fun b hb => H b fun j => ?_⟩
  rw [hb j]
  by_cases e : j < 64
  · rw [if_pos e, if_pos ⟨Nat.zero_le j, e⟩]
  · rw [if_neg e, if_neg (fun z => e z.2)]
theorem cs_x_on_sn (post : SX → Prop) (f : Int32) : ∀ d i : Nat, i + d = 64 → ∀ pn pk on ok sn sk : Nat → Int32, (∀ b : Nat → Int32, (∀ j, b j = if i ≤ j ∧ j < 64 then on j else sn j) → post (f, pn, pk, on, ok, b, sk)) → wX_copyCells__openNumbers_settledNumbers_2 post f (d + 1) (nI i) pn pk on ok sn sk := by
  intro d
  induction d with
  | zero =>
    intro i hi pn pk on ok sn sk H
    have h : (64 : Int32) ≤ nI i := nI_le (a := 64) (by omega) (by omega)
    exact br_t h (H sn fun j => by rw [if_neg (by omega)])
  | succ d ih =>
    intro i hi pn pk on ok sn sk H
    have h : ¬ (64 : Int32) ≤ nI i := nI_ge (b := 64) (by omega) (by decide)
    have hv : vp_in (nI i) 64 := vp_in_nI (by omega) (by decide)
    refine br_f h ⟨hv, hv, fun c ec y ey => ?_⟩
    rw [ec, ey, nI_1, nI_clamp (by omega)]
    refine ih (i + 1) (by omega) pn pk on ok (upd sn i (on i)) sk fun b hb => H b fun j => ?_
    rw [hb j]
    by_cases e : j = i
    · subst e
      rw [if_neg (by omega), if_pos (by omega), pk_us]
    · rw [pk_un e]
      by_cases e2 : i ≤ j ∧ j < 64
      · rw [if_pos e2, if_pos (by omega)]
      · rw [if_neg e2, if_neg (by omega)]
theorem cs_p_on_sn {post : SX → Prop} {f : Int32} {pn pk on ok sn sk : Nat → Int32} (H : ∀ b : Nat → Int32, (∀ j, b j = if j < 64 then on j else sn j) → post (f, pn, pk, on, ok, b, sk)) : wpX_copyCells__openNumbers_settledNumbers post (f, pn, pk, on, ok, sn, sk) := by
  unfold wpX_copyCells__openNumbers_settledNumbers
  refine ⟨64 + 1, cs_x_on_sn post f 64 0 rfl pn pk on ok sn sk fun b hb => H b fun j => ?_⟩
  rw [hb j]
  by_cases e : j < 64
  · rw [if_pos e, if_pos ⟨Nat.zero_le j, e⟩]
  · rw [if_neg e, if_neg (fun z => e z.2)]
theorem cs_x_ok_sk (post : SX → Prop) (f : Int32) : ∀ d i : Nat, i + d = 64 → ∀ pn pk on ok sn sk : Nat → Int32, (∀ b : Nat → Int32, (∀ j, b j = if i ≤ j ∧ j < 64 then ok j else sk j) → post (f, pn, pk, on, ok, sn, b)) → wX_copyCells__openKeys_settledKeys_2 post f (d + 1) (nI i) pn pk on ok sn sk := by
  intro d
  induction d with
  | zero =>
    intro i hi pn pk on ok sn sk H
    have h : (64 : Int32) ≤ nI i := nI_le (a := 64) (by omega) (by omega)
    exact br_t h (H sk fun j => by rw [if_neg (by omega)])
  | succ d ih =>
    intro i hi pn pk on ok sn sk H
    have h : ¬ (64 : Int32) ≤ nI i := nI_ge (b := 64) (by omega) (by decide)
    have hv : vp_in (nI i) 64 := vp_in_nI (by omega) (by decide)
    refine br_f h ⟨hv, hv, fun c ec y ey => ?_⟩
    rw [ec, ey, nI_1, nI_clamp (by omega)]
    refine ih (i + 1) (by omega) pn pk on ok sn (upd sk i (ok i)) fun b hb => H b fun j => ?_
    rw [hb j]
    by_cases e : j = i
    · subst e
      rw [if_neg (by omega), if_pos (by omega), pk_us]
    · rw [pk_un e]
      by_cases e2 : i ≤ j ∧ j < 64
      · rw [if_pos e2, if_pos (by omega)]
      · rw [if_neg e2, if_neg (by omega)]
theorem cs_p_ok_sk {post : SX → Prop} {f : Int32} {pn pk on ok sn sk : Nat → Int32} (H : ∀ b : Nat → Int32, (∀ j, b j = if j < 64 then ok j else sk j) → post (f, pn, pk, on, ok, sn, b)) : wpX_copyCells__openKeys_settledKeys post (f, pn, pk, on, ok, sn, sk) := by
  unfold wpX_copyCells__openKeys_settledKeys
  refine ⟨64 + 1, cs_x_ok_sk post f 64 0 rfl pn pk on ok sn sk fun b hb => H b fun j => ?_⟩
  rw [hb j]
  by_cases e : j < 64
  · rw [if_pos e, if_pos ⟨Nat.zero_le j, e⟩]
  · rw [if_neg e, if_neg (fun z => e z.2)]
theorem cs_x_sn_pn (post : SX → Prop) (f : Int32) : ∀ d i : Nat, i + d = 64 → ∀ pn pk on ok sn sk : Nat → Int32, (∀ b : Nat → Int32, (∀ j, b j = if i ≤ j ∧ j < 64 then sn j else pn j) → post (f, b, pk, on, ok, sn, sk)) → wX_copyCells__settledNumbers_presentNumbers_2 post f (d + 1) (nI i) pn pk on ok sn sk := by
  intro d
  induction d with
  | zero =>
    intro i hi pn pk on ok sn sk H
    have h : (64 : Int32) ≤ nI i := nI_le (a := 64) (by omega) (by omega)
    exact br_t h (H pn fun j => by rw [if_neg (by omega)])
  | succ d ih =>
    intro i hi pn pk on ok sn sk H
    have h : ¬ (64 : Int32) ≤ nI i := nI_ge (b := 64) (by omega) (by decide)
    have hv : vp_in (nI i) 64 := vp_in_nI (by omega) (by decide)
    refine br_f h ⟨hv, hv, fun c ec y ey => ?_⟩
    rw [ec, ey, nI_1, nI_clamp (by omega)]
    refine ih (i + 1) (by omega) (upd pn i (sn i)) pk on ok sn sk fun b hb => H b fun j => ?_
    rw [hb j]
    by_cases e : j = i
    · subst e
      rw [if_neg (by omega), if_pos (by omega), pk_us]
    · rw [pk_un e]
      by_cases e2 : i ≤ j ∧ j < 64
      · rw [if_pos e2, if_pos (by omega)]
      · rw [if_neg e2, if_neg (by omega)]
theorem cs_p_sn_pn {post : SX → Prop} {f : Int32} {pn pk on ok sn sk : Nat → Int32} (H : ∀ b : Nat → Int32, (∀ j, b j = if j < 64 then sn j else pn j) → post (f, b, pk, on, ok, sn, sk)) : wpX_copyCells__settledNumbers_presentNumbers post (f, pn, pk, on, ok, sn, sk) := by
  unfold wpX_copyCells__settledNumbers_presentNumbers
  refine ⟨64 + 1, cs_x_sn_pn post f 64 0 rfl pn pk on ok sn sk fun b hb => H b fun j => ?_⟩
  rw [hb j]
  by_cases e : j < 64
  · rw [if_pos e, if_pos ⟨Nat.zero_le j, e⟩]
  · rw [if_neg e, if_neg (fun z => e z.2)]
theorem cs_x_sk_pk (post : SX → Prop) (f : Int32) : ∀ d i : Nat, i + d = 64 → ∀ pn pk on ok sn sk : Nat → Int32, (∀ b : Nat → Int32, (∀ j, b j = if i ≤ j ∧ j < 64 then sk j else pk j) → post (f, pn, b, on, ok, sn, sk)) → wX_copyCells__settledKeys_presentKeys_2 post f (d + 1) (nI i) pn pk on ok sn sk := by
  intro d
  induction d with
  | zero =>
    intro i hi pn pk on ok sn sk H
    have h : (64 : Int32) ≤ nI i := nI_le (a := 64) (by omega) (by omega)
    exact br_t h (H pk fun j => by rw [if_neg (by omega)])
  | succ d ih =>
    intro i hi pn pk on ok sn sk H
    have h : ¬ (64 : Int32) ≤ nI i := nI_ge (b := 64) (by omega) (by decide)
    have hv : vp_in (nI i) 64 := vp_in_nI (by omega) (by decide)
    refine br_f h ⟨hv, hv, fun c ec y ey => ?_⟩
    rw [ec, ey, nI_1, nI_clamp (by omega)]
    refine ih (i + 1) (by omega) pn (upd pk i (sk i)) on ok sn sk fun b hb => H b fun j => ?_
    rw [hb j]
    by_cases e : j = i
    · subst e
      rw [if_neg (by omega), if_pos (by omega), pk_us]
    · rw [pk_un e]
      by_cases e2 : i ≤ j ∧ j < 64
      · rw [if_pos e2, if_pos (by omega)]
      · rw [if_neg e2, if_neg (by omega)]
theorem cs_p_sk_pk {post : SX → Prop} {f : Int32} {pn pk on ok sn sk : Nat → Int32} (H : ∀ b : Nat → Int32, (∀ j, b j = if j < 64 then sk j else pk j) → post (f, pn, b, on, ok, sn, sk)) : wpX_copyCells__settledKeys_presentKeys post (f, pn, pk, on, ok, sn, sk) := by
  unfold wpX_copyCells__settledKeys_presentKeys
  refine ⟨64 + 1, cs_x_sk_pk post f 64 0 rfl pn pk on ok sn sk fun b hb => H b fun j => ?_⟩
  rw [hb j]
  by_cases e : j < 64
  · rw [if_pos e, if_pos ⟨Nat.zero_le j, e⟩]
  · rw [if_neg e, if_neg (fun z => e z.2)]
theorem cs_y_snapshot_16 (post : Int32 → SY → Prop) (g : Int32) : ∀ n i : Nat, i + n = 64 → ∀ ik hd oi oh si sh : Nat → Int32, (∀ c d : Nat → Int32, (∀ j, c j = if i ≤ j ∧ j < 64 then vp_nar .boolean (ik j) else oi j) → (∀ j, d j = if i ≤ j ∧ j < 64 then hd j else oh j) → post 0 (g, ik, hd, c, d, si, sh)) → wY_snapshot_16 post g (n + 1) (nI i) ik hd oi oh si sh := by
  intro n
  induction n with
  | zero =>
    intro i hi ik hd oi oh si sh H
    have h : (64 : Int32) ≤ nI i := nI_le (a := 64) (by omega) (by omega)
    exact br_t h (H oi oh (fun j => by rw [if_neg (by omega)]) (fun j => by rw [if_neg (by omega)]))
  | succ n ih =>
    intro i hi ik hd oi oh si sh H
    have h : ¬ (64 : Int32) ≤ nI i := nI_ge (b := 64) (by omega) (by decide)
    have hv : vp_in (nI i) 64 := vp_in_nI (by omega) (by decide)
    refine br_f h ⟨hv, hv, fun p ep => ⟨hv, hv, fun q eq y ey => ?_⟩⟩
    rw [ep, eq, ey, nI_1, nI_clamp (by omega)]
    refine ih (i + 1) (by omega) ik hd (upd oi i (vp_nar .boolean (ik i))) (upd oh i (hd i)) si sh fun c d hc hd' => H c d (fun j => ?_) (fun j => ?_)
    · rw [hc j]
      by_cases e : j = i
      · subst e
        rw [if_neg (by omega), if_pos (by omega), pk_us]
      · rw [pk_un e]
        by_cases e2 : i ≤ j ∧ j < 64
        · rw [if_pos e2, if_pos (by omega)]
        · rw [if_neg e2, if_neg (by omega)]
    · rw [hd' j]
      by_cases e : j = i
      · subst e
        rw [if_neg (by omega), if_pos (by omega), pk_us]
      · rw [pk_un e]
        by_cases e2 : i ≤ j ∧ j < 64
        · rw [if_pos e2, if_pos (by omega)]
        · rw [if_neg e2, if_neg (by omega)]
theorem cs_q_snapshot_16 {post : Int32 → SY → Prop} {g : Int32} {ik hd oi oh si sh : Nat → Int32} (H : ∀ c d : Nat → Int32, (∀ j, c j = if j < 64 then vp_nar .boolean (ik j) else oi j) → (∀ j, d j = if j < 64 then hd j else oh j) → post 0 (g, ik, hd, c, d, si, sh)) : ∃ n : Nat, wY_snapshot_16 post g n 0 ik hd oi oh si sh := by
  refine ⟨64 + 1, cs_y_snapshot_16 post g 64 0 rfl ik hd oi oh si sh fun c d hc hd' => H c d (fun j => ?_) (fun j => ?_)⟩
  · rw [hc j]
    by_cases e : j < 64
    · rw [if_pos e, if_pos ⟨Nat.zero_le j, e⟩]
    · rw [if_neg e, if_neg (fun z => e z.2)]
  · rw [hd' j]
    by_cases e : j < 64
    · rw [if_pos e, if_pos ⟨Nat.zero_le j, e⟩]
    · rw [if_neg e, if_neg (fun z => e z.2)]
theorem cs_y_settle_16 (post : Int32 → SY → Prop) (g : Int32) : ∀ n i : Nat, i + n = 64 → ∀ ik hd oi oh si sh : Nat → Int32, (∀ c d : Nat → Int32, (∀ j, c j = if i ≤ j ∧ j < 64 then vp_nar .boolean (oi j) else si j) → (∀ j, d j = if i ≤ j ∧ j < 64 then oh j else sh j) → post 0 (g, ik, hd, oi, oh, c, d)) → wY_settle_16 post g (n + 1) (nI i) ik hd oi oh si sh := by
  intro n
  induction n with
  | zero =>
    intro i hi ik hd oi oh si sh H
    have h : (64 : Int32) ≤ nI i := nI_le (a := 64) (by omega) (by omega)
    exact br_t h (H si sh (fun j => by rw [if_neg (by omega)]) (fun j => by rw [if_neg (by omega)]))
  | succ n ih =>
    intro i hi ik hd oi oh si sh H
    have h : ¬ (64 : Int32) ≤ nI i := nI_ge (b := 64) (by omega) (by decide)
    have hv : vp_in (nI i) 64 := vp_in_nI (by omega) (by decide)
    refine br_f h ⟨hv, hv, fun p ep => ⟨hv, hv, fun q eq y ey => ?_⟩⟩
    rw [ep, eq, ey, nI_1, nI_clamp (by omega)]
    refine ih (i + 1) (by omega) ik hd oi oh (upd si i (vp_nar .boolean (oi i))) (upd sh i (oh i)) fun c d hc hd' => H c d (fun j => ?_) (fun j => ?_)
    · rw [hc j]
      by_cases e : j = i
      · subst e
        rw [if_neg (by omega), if_pos (by omega), pk_us]
      · rw [pk_un e]
        by_cases e2 : i ≤ j ∧ j < 64
        · rw [if_pos e2, if_pos (by omega)]
        · rw [if_neg e2, if_neg (by omega)]
    · rw [hd' j]
      by_cases e : j = i
      · subst e
        rw [if_neg (by omega), if_pos (by omega), pk_us]
      · rw [pk_un e]
        by_cases e2 : i ≤ j ∧ j < 64
        · rw [if_pos e2, if_pos (by omega)]
        · rw [if_neg e2, if_neg (by omega)]
theorem cs_q_settle_16 {post : Int32 → SY → Prop} {g : Int32} {ik hd oi oh si sh : Nat → Int32} (H : ∀ c d : Nat → Int32, (∀ j, c j = if j < 64 then vp_nar .boolean (oi j) else si j) → (∀ j, d j = if j < 64 then oh j else sh j) → post 0 (g, ik, hd, oi, oh, c, d)) : ∃ n : Nat, wY_settle_16 post g n 0 ik hd oi oh si sh := by
  refine ⟨64 + 1, cs_y_settle_16 post g 64 0 rfl ik hd oi oh si sh fun c d hc hd' => H c d (fun j => ?_) (fun j => ?_)⟩
  · rw [hc j]
    by_cases e : j < 64
    · rw [if_pos e, if_pos ⟨Nat.zero_le j, e⟩]
    · rw [if_neg e, if_neg (fun z => e z.2)]
  · rw [hd' j]
    by_cases e : j < 64
    · rw [if_pos e, if_pos ⟨Nat.zero_le j, e⟩]
    · rw [if_neg e, if_neg (fun z => e z.2)]
theorem cs_y_crash_7 (post : SY → Prop) (g : Int32) : ∀ n i : Nat, i + n = 64 → ∀ ik hd oi oh si sh : Nat → Int32, (∀ c d : Nat → Int32, (∀ j, c j = if i ≤ j ∧ j < 64 then vp_nar .boolean (si j) else ik j) → (∀ j, d j = if i ≤ j ∧ j < 64 then sh j else hd j) → post (g, c, d, oi, oh, si, sh)) → wY_crash_7 post (n + 1) (nI i) g ik hd oi oh si sh := by
  intro n
  induction n with
  | zero =>
    intro i hi ik hd oi oh si sh H
    have h : (64 : Int32) ≤ nI i := nI_le (a := 64) (by omega) (by omega)
    exact br_t h (H ik hd (fun j => by rw [if_neg (by omega)]) (fun j => by rw [if_neg (by omega)]))
  | succ n ih =>
    intro i hi ik hd oi oh si sh H
    have h : ¬ (64 : Int32) ≤ nI i := nI_ge (b := 64) (by omega) (by decide)
    have hv : vp_in (nI i) 64 := vp_in_nI (by omega) (by decide)
    refine br_f h ⟨hv, hv, ?_⟩
    refine cs_set (by omega) ?_
    dsimp only
    intro y ey
    rw [ey, nI_1, nI_clamp (by omega)]
    refine ih (i + 1) (by omega) (upd ik i (vp_nar .boolean (si i))) (upd hd i (sh i)) oi oh si sh fun c d hc hd' => H c d (fun j => ?_) (fun j => ?_)
    · rw [hc j]
      by_cases e : j = i
      · subst e
        rw [if_neg (by omega), if_pos (by omega), pk_us]
      · rw [pk_un e]
        by_cases e2 : i ≤ j ∧ j < 64
        · rw [if_pos e2, if_pos (by omega)]
        · rw [if_neg e2, if_neg (by omega)]
    · rw [hd' j]
      by_cases e : j = i
      · subst e
        rw [if_neg (by omega), if_pos (by omega), pk_us]
      · rw [pk_un e]
        by_cases e2 : i ≤ j ∧ j < 64
        · rw [if_pos e2, if_pos (by omega)]
        · rw [if_neg e2, if_neg (by omega)]
theorem cs_q_crash_7 {post : SY → Prop} {g : Int32} {ik hd oi oh si sh : Nat → Int32} (H : ∀ c d : Nat → Int32, (∀ j, c j = if j < 64 then vp_nar .boolean (si j) else ik j) → (∀ j, d j = if j < 64 then sh j else hd j) → post (g, c, d, oi, oh, si, sh)) : ∃ n : Nat, wY_crash_7 post n 0 g ik hd oi oh si sh := by
  refine ⟨64 + 1, cs_y_crash_7 post g 64 0 rfl ik hd oi oh si sh fun c d hc hd' => H c d (fun j => ?_) (fun j => ?_)⟩
  · rw [hc j]
    by_cases e : j < 64
    · rw [if_pos e, if_pos ⟨Nat.zero_le j, e⟩]
    · rw [if_neg e, if_neg (fun z => e z.2)]
  · rw [hd' j]
    by_cases e : j < 64
    · rw [if_pos e, if_pos ⟨Nat.zero_le j, e⟩]
    · rw [if_neg e, if_neg (fun z => e z.2)]
theorem i_vc_snapshot {k : Nat} {u : SX} {v : SY} (I : i_Rel k u v) (hk : k + 5 ≤ 2560) : wpX_snapshot (fun r u' => wpY_snapshot (fun r' v' => r' = r ∧ i_Rel (k + 5) u' v') v) u := by
  obtain ⟨f, pn, pk, on, ok, sn, sk⟩ := u
  obtain ⟨g, ik, hd, oi, oh, si, sh⟩ := v
  obtain ⟨e, hp, ho, hs⟩ := I
  dsimp only at e hp ho hs
  subst e
  unfold wpX_snapshot
  dsimp only
  by_cases z : g = 0
  · refine br_t z ?_
    refine cs_p_pn_on fun a ha => ?_
    dsimp only
    refine cs_p_pk_ok fun b hb => ?_
    dsimp only
    unfold wpY_snapshot
    dsimp only
    refine br_t z ?_
    refine cs_q_snapshot_16 fun c d hc hd' => ?_
    exact ⟨rfl, rfl, hp, cs_cpy hp ho ha hb hc hd', hs⟩
  · refine br_f z ?_
    unfold wpY_snapshot
    exact br_f z ⟨rfl, rfl, hp, ho, hs⟩
theorem i_vc_settle {k : Nat} {u : SX} {v : SY} (I : i_Rel k u v) (hk : k + 5 ≤ 2560) : wpX_settle (fun r u' => wpY_settle (fun r' v' => r' = r ∧ i_Rel (k + 5) u' v') v) u := by
  obtain ⟨f, pn, pk, on, ok, sn, sk⟩ := u
  obtain ⟨g, ik, hd, oi, oh, si, sh⟩ := v
  obtain ⟨e, hp, ho, hs⟩ := I
  dsimp only at e hp ho hs
  subst e
  unfold wpX_settle
  dsimp only
  by_cases z : g = 0
  · refine br_t z ?_
    unfold wpY_settle
    exact br_t z ⟨rfl, rfl, hp, ho, hs⟩
  · refine br_f z ?_
    refine cs_p_on_sn fun a ha => ?_
    dsimp only
    refine cs_p_ok_sk fun b hb => ?_
    dsimp only
    unfold wpY_settle
    dsimp only
    refine br_f z ?_
    refine cs_q_settle_16 fun c d hc hd' => ?_
    exact ⟨rfl, rfl, hp, ho, cs_cpy ho hs ha hb hc hd'⟩
theorem i_vc_crash {k : Nat} {u : SX} {v : SY} (I : i_Rel k u v) (hk : k + 5 ≤ 2560) : wpX_crash (fun u' => wpY_crash (fun v' => i_Rel (k + 5) u' v') v) u := by
  obtain ⟨f, pn, pk, on, ok, sn, sk⟩ := u
  obtain ⟨g, ik, hd, oi, oh, si, sh⟩ := v
  obtain ⟨e, hp, ho, hs⟩ := I
  dsimp only at e hp ho hs
  subst e
  unfold wpX_crash
  dsimp only
  refine cs_p_sn_pn fun a ha => ?_
  dsimp only
  refine cs_p_sk_pk fun b hb => ?_
  dsimp only
  unfold wpY_crash
  dsimp only
  refine cs_q_crash_7 fun c d hc hd' => ?_
  exact ⟨rfl, cs_cpy hs hp ha hb hc hd', ho, hs⟩
end
section
-- rescind: one cell of the component, one of the reference
theorem cs_div {i nd : Nat} (hi : i < 64) (hn : nd < 16) : nI i / 4 = nI nd ↔ i / 4 = nd := by
  rw [show (4 : Int32) = nI 4 from rfl, pk_div (by omega) (by omega) (by omega), nI_eq (by omega) (by omega)]
theorem cs_58 {post : Int32 → SX → Prop} {J : Int32 → Int32 → (Nat → Int32) → (Nat → Int32) → (Nat → Int32) → (Nat → Int32) → (Nat → Int32) → (Nat → Int32) → Prop} {x f : Int32} {pn pk on ok sn sk : Nat → Int32} {i : Nat} (hi : i < 64) (K : J (nI (i + 1)) f (upd pn i 0) (upd pk i 0) on ok sn sk) : wX_rescind_58 post J x (nI i) f pn pk on ok sn sk := by
  unfold wX_rescind_58
  refine cs_put hi ?_
  dsimp only
  intro y ey
  rw [ey, nI_1]; exact K
theorem cs_rxh {post : Int32 → SX → Prop} {f : Int32} {pn pk on ok sn sk : Nat → Int32} {i nd n : Nat} (hi : i < 64) (hn : nd < 16) (h : i / 4 = nd ∨ pk i = nI (nd + 1)) (K : wX_rescind_11 post (nI nd) n (nI (i + 1)) f (upd pn i 0) (upd pk i 0) on ok sn sk) : wX_rescind_11 post (nI nd) (n + 1) (nI i) f pn pk on ok sn sk := by
  have h64 : ¬ (64 : Int32) ≤ nI i := nI_ge (b := 64) hi (by decide)
  have hv : vp_in (nI i) 64 := vp_in_nI hi (by decide)
  refine br_f h64 ⟨cs_4n0, ?_⟩
  by_cases o : i / 4 = nd
  · refine br_t ((cs_div hi hn).mpr o) ⟨hv, br_c (fun _ => ?_) (fun _ => ?_)⟩
    · exact br_f cs_1n0 (cs_58 hi K)
    · exact br_f cs_1n0 (cs_58 hi K)
  · have q : pk (nI i).toNatClampNeg = nI nd + 1 := by
      rw [nI_clamp (by omega), nI_1]
      rcases h with h | h
      · exact absurd h o
      · exact h
    refine br_f (fun z => o ((cs_div hi hn).mp z)) ⟨hv, br_t q ?_⟩
    exact br_t rfl (br_f cs_1n0 (cs_58 hi K))
theorem cs_rxm {post : Int32 → SX → Prop} {f : Int32} {pn pk on ok sn sk : Nat → Int32} {i nd n : Nat} (hi : i < 64) (hn : nd < 16) (o : ¬ i / 4 = nd) (h : ¬ pk i = nI (nd + 1)) (K : wX_rescind_11 post (nI nd) n (nI (i + 1)) f pn pk on ok sn sk) : wX_rescind_11 post (nI nd) (n + 1) (nI i) f pn pk on ok sn sk := by
  have h64 : ¬ (64 : Int32) ≤ nI i := nI_ge (b := 64) hi (by decide)
  have hv : vp_in (nI i) 64 := vp_in_nI hi (by decide)
  have q : ¬ pk (nI i).toNatClampNeg = nI nd + 1 := by
    rw [nI_clamp (by omega), nI_1]; exact h
  refine br_f h64 ⟨cs_4n0, br_f (fun z => o ((cs_div hi hn).mp z)) ⟨hv, br_f q (br_t rfl (br_t rfl ?_))⟩⟩
  intro y ey
  rw [ey, nI_1]; exact K
theorem cs_43 {post : Int32 → SY → Prop} {J : Int32 → Int32 → (Nat → Int32) → (Nat → Int32) → (Nat → Int32) → (Nat → Int32) → (Nat → Int32) → (Nat → Int32) → Prop} {x g : Int32} {ik hd oi oh si sh : Nat → Int32} {i : Nat} (hi : i < 64) (K : J (nI (i + 1)) g (upd ik i 0) (upd hd i 0) oi oh si sh) : wY_rescind_43 post J x (nI i) g ik hd oi oh si sh := by
  unfold wY_rescind_43
  refine cs_set hi ?_
  dsimp only
  intro y ey
  rw [ey, nI_1, cs_n0]; exact K
theorem cs_ryh {post : Int32 → SY → Prop} {g : Int32} {ik hd oi oh si sh : Nat → Int32} {i nd n : Nat} (hi : i < 64) (hn : nd < 16) (h : i / 4 = nd ∨ (¬ ik i = 0 ∧ hd i = nI nd)) (K : wY_rescind_11 post (nI nd) n (nI (i + 1)) g (upd ik i 0) (upd hd i 0) oi oh si sh) : wY_rescind_11 post (nI nd) (n + 1) (nI i) g ik hd oi oh si sh := by
  have h64 : ¬ (64 : Int32) ≤ nI i := nI_ge (b := 64) hi (by decide)
  have hv : vp_in (nI i) 64 := vp_in_nI hi (by decide)
  refine br_f h64 ⟨cs_4n0, ?_⟩
  by_cases o : i / 4 = nd
  · exact br_t ((cs_div hi hn).mpr o) (cs_43 hi K)
  · have q : ¬ ik i = 0 ∧ hd i = nI nd := by
      rcases h with h | h
      · exact absurd h o
      · exact h
    have q1 : ¬ ik (nI i).toNatClampNeg = 0 := by rw [nI_clamp (by omega)]; exact q.1
    have q2 : hd (nI i).toNatClampNeg = nI nd := by rw [nI_clamp (by omega)]; exact q.2
    exact br_f (fun z => o ((cs_div hi hn).mp z)) ⟨hv, br_f q1 ⟨hv, br_t q2 (cs_43 hi K)⟩⟩
theorem cs_rym {post : Int32 → SY → Prop} {g : Int32} {ik hd oi oh si sh : Nat → Int32} {i nd n : Nat} (hi : i < 64) (hn : nd < 16) (o : ¬ i / 4 = nd) (h : ik i = 0 ∨ ¬ hd i = nI nd) (K : wY_rescind_11 post (nI nd) n (nI (i + 1)) g ik hd oi oh si sh) : wY_rescind_11 post (nI nd) (n + 1) (nI i) g ik hd oi oh si sh := by
  have h64 : ¬ (64 : Int32) ≤ nI i := nI_ge (b := 64) hi (by decide)
  have hv : vp_in (nI i) 64 := vp_in_nI hi (by decide)
  refine br_f h64 ⟨cs_4n0, br_f (fun z => o ((cs_div hi hn).mp z)) ⟨hv, ?_⟩⟩
  rw [nI_clamp (by omega)]
  refine br_c (fun _ y ey => ?_) (fun z => ⟨hv, br_f ?_ fun y ey => ?_⟩)
  · rw [ey, nI_1]; exact K
  · rcases h with h | h
    · exact absurd h z
    · exact h
  · rw [ey, nI_1]; exact K
theorem cs_resc {f g : Int32} {on ok sn sk oi oh si sh : Nat → Int32} {nd : Nat} (hn : nd < 16) : ∀ d i : Nat, i + d = 64 → ∀ pn pk ik hd : Nat → Int32, cs_st pn pk ik hd → ∃ pn' pk' ik' hd' : Nat → Int32, cs_st pn' pk' ik' hd' ∧
    (∀ post : Int32 → SX → Prop, post 0 (f, pn', pk', on, ok, sn, sk) → wX_rescind_11 post (nI nd) (d + 1) (nI i) f pn pk on ok sn sk) ∧
    (∀ post : Int32 → SY → Prop, post 0 (g, ik', hd', oi, oh, si, sh) → wY_rescind_11 post (nI nd) (d + 1) (nI i) g ik hd oi oh si sh) := by
  intro d
  induction d with
  | zero =>
    intro i hi pn pk ik hd H
    have h : (64 : Int32) ≤ nI i := nI_le (a := 64) (by omega) (by omega)
    exact ⟨pn, pk, ik, hd, H, fun _ hp => br_t h hp, fun _ hp => br_t h hp⟩
  | succ d ih =>
    intro i hi pn pk ik hd H
    have h64 : i < 64 := by omega
    by_cases o : i / 4 = nd
    · obtain ⟨a, b, c, e, S, hX, hY⟩ := ih (i + 1) (by omega) (upd pn i 0) (upd pk i 0) (upd ik i 0) (upd hd i 0) (cs_upd H i cs_ce0)
      exact ⟨a, b, c, e, S, fun post hp => cs_rxh h64 hn (Or.inl o) (hX post hp), fun post hp => cs_ryh h64 hn (Or.inl o) (hY post hp)⟩
    · rcases H i with ⟨e1, e2, e3⟩ | ⟨t, ht, e1, e2, e3, e4⟩
      · obtain ⟨a, b, c, e, S, hX, hY⟩ := ih (i + 1) (by omega) pn pk ik hd H
        have q : ¬ pk i = nI (nd + 1) := by
          rw [e1]; exact fun z => nI_ne0 (n := nd + 1) (by omega) (by omega) z.symm
        exact ⟨a, b, c, e, S, fun post hp => cs_rxm h64 hn o q (hX post hp), fun post hp => cs_rym h64 hn o (Or.inl e2) (hY post hp)⟩
      · by_cases et : t = nd
        · subst et
          obtain ⟨a, b, c, e, S, hX, hY⟩ := ih (i + 1) (by omega) (upd pn i 0) (upd pk i 0) (upd ik i 0) (upd hd i 0) (cs_upd H i cs_ce0)
          have q : ¬ ik i = 0 := by rw [e3]; exact cs_1n0
          exact ⟨a, b, c, e, S, fun post hp => cs_rxh h64 hn (Or.inr e1) (hX post hp), fun post hp => cs_ryh h64 hn (Or.inr ⟨q, e4⟩) (hY post hp)⟩
        · obtain ⟨a, b, c, e, S, hX, hY⟩ := ih (i + 1) (by omega) pn pk ik hd H
          have q : ¬ pk i = nI (nd + 1) := by
            rw [e1, nI_eq (by omega) (by omega)]; omega
          have q2 : ¬ hd i = nI nd := by
            rw [e4, nI_eq (by omega) (by omega)]; exact et
          exact ⟨a, b, c, e, S, fun post hp => cs_rxm h64 hn o q (hX post hp), fun post hp => cs_rym h64 hn o (Or.inr q2) (hY post hp)⟩
theorem i_vc_rescind {k : Nat} {u : SX} {v : SY} (I : i_Rel k u v) (hk : k + 5 ≤ 2560) (v1 : Int32) : wpX_rescind (fun r u' => wpY_rescind (fun r' v' => r' = r ∧ i_Rel (k + 5) u' v') v v1) u v1 := by
  obtain ⟨f, pn, pk, on, ok, sn, sk⟩ := u
  obtain ⟨g, ik, hd, oi, oh, si, sh⟩ := v
  obtain ⟨e, hp, ho, hs⟩ := I
  dsimp only at e hp ho hs
  unfold wpX_rescind
  dsimp only
  rcases cs_node v1 with hb | ⟨nd, hn, rfl⟩
  · refine cs_xnf hb ?_
    refine br_t rfl ?_
    unfold wpY_rescind
    dsimp only
    refine cs_ynf hb ?_
    exact br_f cs_1n0 ⟨rfl, e, hp, ho, hs⟩
  · obtain ⟨a, b, c, d, S, hX, hY⟩ := cs_resc (f := f) (g := g) (on := on) (ok := ok) (sn := sn) (sk := sk) (oi := oi) (oh := oh) (si := si) (sh := sh) hn 64 0 rfl pn pk ik hd hp
    refine cs_xnt hn ?_
    refine br_f cs_1n0 ⟨64 + 1, hX _ ?_⟩
    unfold wpY_rescind
    dsimp only
    refine cs_ynt hn ?_
    exact br_t rfl ⟨64 + 1, hY _ ⟨rfl, e, S, ho, hs⟩⟩
-- keysTo
theorem cs_keys {f g : Int32} {pn pk on ok sn sk ik hd oi oh si sh : Nat → Int32} {nd : Nat} (hn : nd < 16) (H : cs_st pn pk ik hd) : ∀ d i : Nat, i + d = 64 → ∀ c : Int32, ∃ r : Int32,
    (∀ post : Int32 → Prop, post r → wX_keysTo_13 post (nI nd) f pn pk on ok sn sk (d + 1) c (nI i)) ∧
    (∀ post : Int32 → Prop, post r → wY_keysTo_13 post (nI nd) g ik hd oi oh si sh (d + 1) c (nI i)) := by
  intro d
  induction d with
  | zero =>
    intro i hi c
    have h : (64 : Int32) ≤ nI i := nI_le (a := 64) (by omega) (by omega)
    exact ⟨c, fun _ hp => br_t h hp, fun _ hp => br_t h hp⟩
  | succ d ih =>
    intro i hi c
    have h64 : ¬ (64 : Int32) ≤ nI i := nI_ge (b := 64) (by omega) (by decide)
    have hv : vp_in (nI i) 64 := vp_in_nI (by omega) (by decide)
    have cl : (nI i).toNatClampNeg = i := nI_clamp (by omega)
    rcases H i with ⟨e1, e2, e3⟩ | ⟨t, ht, e1, e2, e3, e4⟩
    · obtain ⟨r, hX, hY⟩ := ih (i + 1) (by omega) c
      have q : ¬ pk (nI i).toNatClampNeg = nI nd + 1 := by
        rw [cl, nI_1, e1]; exact fun z => nI_ne0 (n := nd + 1) (by omega) (by omega) z.symm
      have q1 : ik (nI i).toNatClampNeg = 0 := by rw [cl]; exact e2
      refine ⟨r, fun post hp => br_f h64 ⟨hv, br_f q fun y ey => ?_⟩, fun post hp => br_f h64 ⟨hv, br_t q1 fun y ey => ?_⟩⟩
      · rw [ey, nI_1]; exact hX post hp
      · rw [ey, nI_1]; exact hY post hp
    · have q1 : ¬ ik (nI i).toNatClampNeg = 0 := by rw [cl, e3]; exact cs_1n0
      by_cases et : t = nd
      · subst et
        obtain ⟨r, hX, hY⟩ := ih (i + 1) (by omega) (c + 1)
        have q : pk (nI i).toNatClampNeg = nI t + 1 := by rw [cl, nI_1]; exact e1
        have q2 : hd (nI i).toNatClampNeg = nI t := by rw [cl]; exact e4
        refine ⟨r, fun post hp => br_f h64 ⟨hv, br_t q fun w ew y ey => ?_⟩, fun post hp => br_f h64 ⟨hv, br_f q1 ⟨hv, br_t q2 fun w ew y ey => ?_⟩⟩⟩
        · rw [ew, ey, nI_1]; exact hX post hp
        · rw [ew, ey, nI_1]; exact hY post hp
      · obtain ⟨r, hX, hY⟩ := ih (i + 1) (by omega) c
        have q : ¬ pk (nI i).toNatClampNeg = nI nd + 1 := by
          rw [cl, nI_1, e1, nI_eq (by omega) (by omega)]; omega
        have q2 : ¬ hd (nI i).toNatClampNeg = nI nd := by
          rw [cl, e4, nI_eq (by omega) (by omega)]; exact et
        refine ⟨r, fun post hp => br_f h64 ⟨hv, br_f q fun y ey => ?_⟩, fun post hp => br_f h64 ⟨hv, br_f q1 ⟨hv, br_f q2 fun y ey => ?_⟩⟩⟩
        · rw [ey, nI_1]; exact hX post hp
        · rw [ey, nI_1]; exact hY post hp
theorem i_vc_keysTo {k : Nat} {u : SX} {v : SY} (I : i_Rel k u v) (hk : k + 5 ≤ 2560) (v1 : Int32) : wpX_keysTo (fun r => wpY_keysTo (fun r' => r' = r ∧ i_Rel (k + 5) u v) v v1) u v1 := by
  have J : i_Rel (k + 5) u v := I
  generalize i_Rel (k + 5) u v = R at J
  obtain ⟨f, pn, pk, on, ok, sn, sk⟩ := u
  obtain ⟨g, ik, hd, oi, oh, si, sh⟩ := v
  obtain ⟨e, hp, ho, hs⟩ := I
  dsimp only at e hp ho hs
  unfold wpX_keysTo
  dsimp only
  rcases cs_node v1 with hb | ⟨nd, hn, rfl⟩
  · refine cs_xnf hb ?_
    refine br_t rfl ?_
    unfold wpY_keysTo
    dsimp only
    refine cs_ynf hb ?_
    exact br_f cs_1n0 ⟨rfl, J⟩
  · obtain ⟨r, hX, hY⟩ := cs_keys (f := f) (g := g) (on := on) (ok := ok) (sn := sn) (sk := sk) (oi := oi) (oh := oh) (si := si) (sh := sh) hn hp 64 0 rfl 0
    refine cs_xnt hn ?_
    refine br_f cs_1n0 ⟨64 + 1, hX _ ?_⟩
    unfold wpY_keysTo
    dsimp only
    refine cs_ynt hn ?_
    exact br_t rfl ⟨64 + 1, hY _ ⟨rfl, J⟩⟩
end
section
-- follow: m is the number of steps taken at most, 0 to 16
theorem cs_fol {f g : Int32} {pn pk on ok sn sk ik hd oi oh si sh : Nat → Int32} {x : Int32} {s m : Nat} (hs : s < 4) (hm : m ≤ 16) (hA : ∀ i : Nat, i < m → ¬ x ≤ nI i) (hB : m < 16 → x ≤ nI m) (H : cs_st pn pk ik hd) : ∀ d i : Nat, i + d = m → ∀ a : Nat, a < 16 → ∃ r : Int32,
    (∀ post : Int32 → Prop, post r → wX_follow_16 post (nI s) x f pn pk on ok sn sk (d + 1) (nI a) (nI i)) ∧
    (∀ post : Int32 → Prop, post r → wY_follow_38 post (nI s) (nI m) g ik hd oi oh si sh (d + 1) (nI a) (nI i)) := by
  intro d
  induction d with
  | zero =>
    intro i hi a ha
    have h : nI m ≤ nI i := nI_le (by omega) (by omega)
    refine ⟨nI a, fun post hp => br_c (fun _ => hp) (fun z => br_t ?_ hp), fun post hp => br_t h hp⟩
    have hmi : m = i := by omega
    subst hmi
    by_cases e : m < 16
    · exact hB e
    · exact absurd (nI_le (a := 16) (by omega) (by omega)) z
  | succ d ih =>
    intro i hi a ha
    have h16 : ¬ (16 : Int32) ≤ nI i := nI_ge (b := 16) (by omega) (by decide)
    have hx : ¬ x ≤ nI i := hA i (by omega)
    have hy : ¬ nI m ≤ nI i := nI_ge (by omega) (by omega)
    have hv : vp_in (4 * nI a + nI s) 64 := by rw [cs_yc]; exact vp_in_nI (by omega) (by decide)
    have cl : (4 * nI a + nI s).toNatClampNeg = 4 * a + s := by rw [cs_yc]; exact nI_clamp (by omega)
    rcases H (4 * a + s) with ⟨e1, e2, e3⟩ | ⟨t, ht, e1, e2, e3, e4⟩
    · refine ⟨-2, fun post hp => br_f h16 (br_f hx ?_), fun post hp => br_f hy ⟨hv, br_t ?_ hp⟩⟩
      · refine cs_tgn ha hs e1 ?_
        exact br_t rfl hp
      · rw [cl]; exact e2
    · obtain ⟨r, hX, hY⟩ := ih (i + 1) (by omega) t ht
      have q : ¬ nI t = -2 := by
        intro z
        have z' := congrArg Int32.toInt z
        rw [nI_toInt (by omega), show (-2 : Int32).toInt = -2 from rfl] at z'
        omega
      have q1 : ¬ ik (4 * nI a + nI s).toNatClampNeg = 0 := by rw [cl, e3]; exact cs_1n0
      refine ⟨r, fun post hp => br_f h16 (br_f hx ?_), fun post hp => br_f hy ⟨hv, br_f q1 ⟨hv, fun w ew y ey => ?_⟩⟩⟩
      · refine cs_tgk ha hs ht e1 ?_
        refine br_f q fun y ey => ?_
        rw [ey, nI_1]; exact hX post hp
      · rw [ew, ey, cl, e4, nI_1]; exact hY post hp
theorem i_vc_follow {k : Nat} {u : SX} {v : SY} (I : i_Rel k u v) (hk : k + 5 ≤ 2560) (v1 : Int32) (v2 : Int32) (v3 : Int32) : wpX_follow (fun r => wpY_follow (fun r' => r' = r ∧ i_Rel (k + 5) u v) v v1 v2 v3) u v1 v2 v3 := by
  have J : i_Rel (k + 5) u v := I
  generalize i_Rel (k + 5) u v = R at J
  obtain ⟨f, pn, pk, on, ok, sn, sk⟩ := u
  obtain ⟨g, ik, hd, oi, oh, si, sh⟩ := v
  obtain ⟨e, hp, ho, hs⟩ := I
  dsimp only at e hp ho hs
  unfold wpX_follow
  dsimp only
  rcases cs_cell v1 v2 with hb | ⟨j, s, hj, hs4, rfl, rfl⟩
  · refine cs_xcf hb ?_
    refine br_t rfl ?_
    unfold wpY_follow
    dsimp only
    refine cs_ycf hb ?_
    exact br_f cs_1n0 ⟨rfl, J⟩
  · refine cs_xct hj hs4 ?_
    refine br_f cs_1n0 ?_
    rcases pk_ix v3 (n := 17) (by omega) with hn | hn | ⟨m, hm, rfl⟩
    · have h0 : ¬ (0 : Int32) ≤ v3 := Int32.not_le.mpr hn
      obtain ⟨r, hX, hY⟩ := cs_fol (f := f) (g := g) (on := on) (ok := ok) (sn := sn) (sk := sk) (oi := oi) (oh := oh) (si := si) (sh := sh) (x := v3) (m := 0) hs4 (by omega) (fun i hi => absurd hi (by omega)) (fun _ => Int32.le_of_lt hn) hp 0 0 rfl j hj
      refine ⟨0 + 1, hX _ ?_⟩
      unfold wpY_follow
      dsimp only
      refine cs_yct hj hs4 ?_
      exact br_t rfl (br_f h0 ⟨0 + 1, hY _ ⟨rfl, J⟩⟩)
    · have hg := cs_big (a := 16) (by decide) (by decide) hn
      have h0 : (0 : Int32) ≤ v3 := Int32.not_lt.mp hg.1
      obtain ⟨r, hX, hY⟩ := cs_fol (f := f) (g := g) (on := on) (ok := ok) (sn := sn) (sk := sk) (oi := oi) (oh := oh) (si := si) (sh := sh) (x := v3) (m := 16) hs4 (by omega) (fun i hi => (cs_big (a := i) (by decide) (by omega) hn).2) (fun z => absurd z (by omega)) hp 16 0 rfl j hj
      refine ⟨16 + 1, hX _ ?_⟩
      unfold wpY_follow
      dsimp only
      refine cs_yct hj hs4 ?_
      exact br_t rfl (br_t h0 (br_f hg.2 ⟨16 + 1, hY _ ⟨rfl, J⟩⟩))
    · have h0 : (0 : Int32) ≤ nI m := nI_pos' (by omega)
      have h16 : nI m ≤ (16 : Int32) := nI_le (b := 16) (by omega) (by decide)
      obtain ⟨r, hX, hY⟩ := cs_fol (f := f) (g := g) (on := on) (ok := ok) (sn := sn) (sk := sk) (oi := oi) (oh := oh) (si := si) (sh := sh) (x := nI m) (m := m) hs4 (by omega) (fun i hi => nI_ge hi (by omega)) (fun _ => nI_le (Nat.le_refl m) (by omega)) hp m 0 (by omega) j hj
      refine ⟨m + 1, hX _ ?_⟩
      unfold wpY_follow
      dsimp only
      refine cs_yct hj hs4 ?_
      exact br_t rfl (br_t h0 (br_t h16 ⟨m + 1, hY _ ⟨rfl, J⟩⟩))
end
