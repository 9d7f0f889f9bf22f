theorem i_vc_write {k : Nat} {u : SX} {v : SY} (I : i_Rel k u v) (hk : k + 5 ≤ 2560) (v1 : Int32) (v2 : Int32) (v3 : Int32) : wpX_write (fun r u' => wpY_write (fun r' v' => r' = r ∧ i_Rel (k + 5) u' v') v v1 v2 v3) u v1 v2 v3 := by
  obtain ⟨f, pn, pk, on, ok, sn, sk⟩ := u
  obtain ⟨g, ik, hd, oi, oh, si, sh⟩ := v
  obtain ⟨e, hp, ho, hs⟩ := I
  dsimp only at e hp ho hs
  unfold wpX_write
  dsimp only
  rcases cs_cell v1 v2 with hb | ⟨j, s, hj, hs4, rfl, rfl⟩
  · refine cs_xcf hb ?_
    refine br_t rfl ?_
    unfold wpY_write
    dsimp only
    refine cs_ycf hb ?_
    exact br_f cs_1n0 ⟨rfl, e, hp, ho, hs⟩
  · have hc : 4 * j + s < 64 := by omega
    refine cs_xct hj hs4 ?_
    refine br_f cs_1n0 ?_
    refine cs_cof ?_
    refine cs_put hc ?_
    unfold wpY_write
    dsimp only
    refine cs_yct hj hs4 ?_
    refine br_t rfl ?_
    rw [cs_yc]
    refine cs_set hc ?_
    dsimp only
    exact ⟨rfl, e, cs_upd hp _ (Or.inl ⟨rfl, cs_n0, rfl⟩), ho, hs⟩
theorem i_vc_writeKey {k : Nat} {u : SX} {v : SY} (I : i_Rel k u v) (hk : k + 5 ≤ 2560) (v1 : Int32) (v2 : Int32) (v3 : Int32) : wpX_writeKey (fun r u' => wpY_writeKey (fun r' v' => r' = r ∧ i_Rel (k + 5) u' v') v v1 v2 v3) u v1 v2 v3 := by
  obtain ⟨f, pn, pk, on, ok, sn, sk⟩ := u
  obtain ⟨g, ik, hd, oi, oh, si, sh⟩ := v
  obtain ⟨e, hp, ho, hs⟩ := I
  dsimp only at e hp ho hs
  unfold wpX_writeKey
  dsimp only
  rcases cs_cell v1 v2 with hb | ⟨j, s, hj, hs4, rfl, rfl⟩
  · refine cs_xcf hb ?_
    refine br_t rfl ?_
    unfold wpY_writeKey
    dsimp only
    refine cs_ycf hb ?_
    exact br_f cs_1n0 ⟨rfl, e, hp, ho, hs⟩
  · have hc : 4 * j + s < 64 := by omega
    refine cs_xct hj hs4 ?_
    refine br_f cs_1n0 ?_
    rcases cs_node v3 with hb | ⟨t, ht, rfl⟩
    · refine cs_xnf hb ?_
      refine br_t rfl ?_
      unfold wpY_writeKey
      dsimp only
      refine cs_yct hj hs4 ?_
      refine br_t rfl ?_
      refine cs_ynf hb ?_
      exact br_f cs_1n0 ⟨rfl, e, hp, ho, hs⟩
    · refine cs_xnt ht ?_
      refine br_f cs_1n0 ?_
      refine cs_cof ?_
      have hi : vp_in (nI (4 * j + s)) 64 := vp_in_nI hc (by decide)
      refine ⟨hi, fun a ea => ⟨hi, fun b eb => ?_⟩⟩
      rw [ea, eb, nI_clamp (by omega)]
      unfold wpY_writeKey
      dsimp only
      refine cs_yct hj hs4 ?_
      refine br_t rfl ?_
      refine cs_ynt ht ?_
      refine br_t rfl ?_
      rw [cs_yc]
      refine cs_set hc ?_
      dsimp only
      exact ⟨rfl, e, cs_upd hp _ (Or.inr ⟨t, ht, nI_1 t, rfl, cs_n1, rfl⟩), ho, hs⟩
theorem i_vc_copy {k : Nat} {u : SX} {v : SY} (I : i_Rel k u v) (hk : k + 5 ≤ 2560) (v1 : Int32) (v2 : Int32) (v3 : Int32) (v4 : Int32) : wpX_copy (fun r u' => wpY_copy (fun r' v' => r' = r ∧ i_Rel (k + 5) u' v') v v1 v2 v3 v4) u v1 v2 v3 v4 := by
  obtain ⟨f, pn, pk, on, ok, sn, sk⟩ := u
  obtain ⟨g, ik, hd, oi, oh, si, sh⟩ := v
  obtain ⟨e, hp, ho, hs⟩ := I
  dsimp only at e hp ho hs
  unfold wpX_copy
  dsimp only
  rcases cs_cell v1 v2 with hb | ⟨j, s, hj, hs4, rfl, rfl⟩
  · refine cs_xcf hb ?_
    refine br_t rfl ?_
    unfold wpY_copy
    dsimp only
    refine cs_ycf hb ?_
    exact br_f cs_1n0 ⟨rfl, e, hp, ho, hs⟩
  · have hc : 4 * j + s < 64 := by omega
    refine cs_xct hj hs4 ?_
    refine br_f cs_1n0 ?_
    rcases cs_cell v3 v4 with hb | ⟨j', s', hj', hs4', rfl, rfl⟩
    · refine cs_xcf hb ?_
      refine br_t rfl ?_
      unfold wpY_copy
      dsimp only
      refine cs_yct hj hs4 ?_
      refine br_t rfl ?_
      refine cs_ycf hb ?_
      exact br_f cs_1n0 ⟨rfl, e, hp, ho, hs⟩
    · have hc' : 4 * j' + s' < 64 := by omega
      refine cs_xct hj' hs4' ?_
      refine br_f cs_1n0 ?_
      refine cs_cof ?_
      refine cs_cof ?_
      have hi : vp_in (nI (4 * j + s)) 64 := vp_in_nI hc (by decide)
      have hi' : vp_in (nI (4 * j' + s')) 64 := vp_in_nI hc' (by decide)
      refine ⟨hi, hi', fun a ea => ⟨hi, hi', fun b eb => ?_⟩⟩
      rw [ea, eb, nI_clamp (n := 4 * j + s) (by omega), nI_clamp (n := 4 * j' + s') (by omega)]
      unfold wpY_copy
      dsimp only
      refine cs_yct hj hs4 ?_
      refine br_t rfl ?_
      refine cs_yct hj' hs4' ?_
      refine br_t rfl ?_
      rw [cs_yc, cs_yc, nI_clamp (n := 4 * j + s) (by omega)]
      refine ⟨hi, hi, ?_⟩
      refine cs_set hc' ?_
      dsimp only
      have hce := hp (4 * j + s)
      rw [cs_nar hce]
      exact ⟨rfl, e, cs_upd hp _ hce, ho, hs⟩
theorem i_vc_key {k : Nat} {u : SX} {v : SY} (I : i_Rel k u v) (hk : k + 5 ≤ 2560) (v1 : Int32) (v2 : Int32) : wpX_key (fun r => wpY_key (fun r' => r' = r ∧ i_Rel (k + 5) u v) v v1 v2) u v1 v2 := by
  have J : i_Rel (k + 5) u v := I
  generalize i_Rel (k + 5) u v = R at J
  obtain ⟨f, pn, pk, on, ok, sn, sk⟩ := u
  obtain ⟨g, ik, hd, oi, oh, si, sh⟩ := v
  obtain ⟨e, hp, ho, hs⟩ := I
  dsimp only at e hp ho hs
  unfold wpX_key
  dsimp only
  rcases cs_cell v1 v2 with hb | ⟨j, s, hj, hs4, rfl, rfl⟩
  · refine cs_xcf hb ?_
    refine br_t rfl ?_
    unfold wpY_key
    dsimp only
    refine cs_ycf hb ?_
    exact br_f cs_1n0 ⟨rfl, J⟩
  · have hi : vp_in (nI (4 * j + s)) 64 := vp_in_nI (by omega) (by decide)
    refine cs_xct hj hs4 ?_
    refine br_f cs_1n0 ?_
    rcases hp (4 * j + s) with ⟨e1, e2, e3⟩ | ⟨t, ht, e1, e2, e3, e4⟩
    · refine cs_tgn hj hs4 e1 ?_
      unfold wpY_key
      dsimp only
      refine cs_yct hj hs4 ?_
      refine br_t rfl ?_
      rw [cs_yc, nI_clamp (by omega), e2]
      exact ⟨hi, br_t rfl ⟨rfl, J⟩⟩
    · refine cs_tgk hj hs4 ht e1 ?_
      unfold wpY_key
      dsimp only
      refine cs_yct hj hs4 ?_
      refine br_t rfl ?_
      rw [cs_yc, nI_clamp (by omega), e3, e4]
      exact ⟨hi, br_f cs_1n0 ⟨hi, rfl, J⟩⟩
theorem i_vc_number {k : Nat} {u : SX} {v : SY} (I : i_Rel k u v) (hk : k + 5 ≤ 2560) (v1 : Int32) (v2 : Int32) : wpX_number (fun r => wpY_number (fun r' => r' = r ∧ i_Rel (k + 5) u v) v v1 v2) u v1 v2 := by
  have J : i_Rel (k + 5) u v := I
  generalize i_Rel (k + 5) u v = R at J
  obtain ⟨f, pn, pk, on, ok, sn, sk⟩ := u
  obtain ⟨g, ik, hd, oi, oh, si, sh⟩ := v
  obtain ⟨e, hp, ho, hs⟩ := I
  dsimp only at e hp ho hs
  unfold wpX_number
  dsimp only
  rcases cs_cell v1 v2 with hb | ⟨j, s, hj, hs4, rfl, rfl⟩
  · refine cs_xcf hb ?_
    refine br_t rfl ?_
    unfold wpY_number
    dsimp only
    refine cs_ycf hb ?_
    exact br_f cs_1n0 ⟨rfl, J⟩
  · have hi : vp_in (nI (4 * j + s)) 64 := vp_in_nI (by omega) (by decide)
    refine cs_xct hj hs4 ?_
    refine br_f cs_1n0 ?_
    refine cs_cof ?_
    refine ⟨hi, ?_⟩
    unfold wpY_number
    dsimp only
    refine cs_yct hj hs4 ?_
    refine br_t rfl ?_
    rw [cs_yc, nI_clamp (by omega)]
    rcases hp (4 * j + s) with ⟨e1, e2, e3⟩ | ⟨t, ht, e1, e2, e3, e4⟩
    · exact ⟨hi, br_t e2 ⟨hi, e3, J⟩⟩
    · rw [e3, e2]
      exact ⟨hi, br_f cs_1n0 ⟨rfl, J⟩⟩
theorem i_vc_idle {k : Nat} {u : SX} {v : SY} (I : i_Rel k u v) (hk : k + 5 ≤ 2560) (v1 : Int32) : wpX_idle (fun u' => wpY_idle (fun v' => i_Rel (k + 5) u' v') v v1) u v1 := I
