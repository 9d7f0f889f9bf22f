theorem cs_x_pn_on (post : SX → Prop) (f : Int32) : ∀ d i : Nat, i + d = 64 → ∀ pn pk on ok sn sk : Nat → Int32, (∀ b : Nat → Int32, (∀ j, b j = if i ≤ j ∧ j < 64 then pn j else on j) → post (f, pn, pk, b, ok, sn, sk)) → wX_copyCells__presentNumbers_openNumbers_2 post f (d + 1) (nI i) pn pk on ok sn sk := by
  intro d
  induction d with
  | zero =>
    intro i hi pn pk on ok sn sk H
    have h : (64 : Int32) ≤ nI i := nI_le (a := 64) (by omega) (by omega)
    exact br_t h (H on fun j => by rw [if_neg (by omega)])
  | succ d ih =>
    intro i hi pn pk on ok sn sk H
    have h : ¬ (64 : Int32) ≤ nI i := nI_ge (b := 64) (by omega) (by decide)
    have hv : vp_in (nI i) 64 := vp_in_nI (by omega) (by decide)
    refine br_f h ⟨hv, hv, fun c ec y ey => ?_⟩
    rw [ec, ey, nI_1, nI_clamp (by omega)]
    refine ih (i + 1) (by omega) pn pk (upd on i (pn i)) ok sn sk fun b hb => H b fun j => ?_
    rw [hb j]
    by_cases e : j = i
    · subst e
      rw [if_neg (by omega), if_pos (by omega), pk_us]
    · rw [pk_un e]
      by_cases e2 : i ≤ j ∧ j < 64
      · rw [if_pos e2, if_pos (by omega)]
      · rw [if_neg e2, if_neg (by omega)]
theorem cs_p_pn_on {post : SX → Prop} {f : Int32} {pn pk on ok sn sk : Nat → Int32} (H : ∀ b : Nat → Int32, (∀ j, b j = if j < 64 then pn j else on j) → post (f, pn, pk, b, ok, sn, sk)) : wpX_copyCells__presentNumbers_openNumbers post (f, pn, pk, on, ok, sn, sk) := by
  unfold wpX_copyCells__presentNumbers_openNumbers
  refine ⟨64 + 1, cs_x_pn_on post f 64 0 rfl pn pk on ok sn sk fun b hb => H b fun j => ?_⟩
  rw [hb j]
  by_cases e : j < 64
  · rw [if_pos e, if_pos ⟨Nat.zero_le j, e⟩]
  · rw [if_neg e, if_neg (fun z => e z.2)]
theorem cs_x_pk_ok (post : SX → Prop) (f : Int32) : ∀ d i : Nat, i + d = 64 → ∀ pn pk on ok sn sk : Nat → Int32, (∀ b : Nat → Int32, (∀ j, b j = if i ≤ j ∧ j < 64 then pk j else ok j) → post (f, pn, pk, on, b, sn, sk)) → wX_copyCells__presentKeys_openKeys_2 post f (d + 1) (nI i) pn pk on ok sn sk := by
  intro d
  induction d with
  | zero =>
    intro i hi pn pk on ok sn sk H
    have h : (64 : Int32) ≤ nI i := nI_le (a := 64) (by omega) (by omega)
    exact br_t h (H ok fun j => by rw [if_neg (by omega)])
  | succ d ih =>
    intro i hi pn pk on ok sn sk H
    have h : ¬ (64 : Int32) ≤ nI i := nI_ge (b := 64) (by omega) (by decide)
    have hv : vp_in (nI i) 64 := vp_in_nI (by omega) (by decide)
    refine br_f h ⟨hv, hv, fun c ec y ey => ?_⟩
    rw [ec, ey, nI_1, nI_clamp (by omega)]
    refine ih (i + 1) (by omega) pn pk on (upd ok i (pk i)) sn sk fun b hb => H b fun j => ?_
    rw [hb j]
    by_cases e : j = i
    · subst e
      rw [if_neg (by omega), if_pos (by omega), pk_us]
    · rw [pk_un e]
      by_cases e2 : i ≤ j ∧ j < 64
      · rw [if_pos e2, if_pos (by omega)]
      · rw [if_neg e2, if_neg (by omega)]
theorem cs_p_pk_ok {post : SX → Prop} {f : Int32} {pn pk on ok sn sk : Nat → Int32} (H : ∀ b : Nat → Int32, (∀ j, b j = if j < 64 then pk j else ok j) → post (f, pn, pk, on, b, sn, sk)) : wpX_copyCells__presentKeys_openKeys post (f, pn, pk, on, ok, sn, sk) := by
  unfold wpX_copyCells__presentKeys_openKeys
  refine ⟨64 + 1, cs_x_pk_ok post f 64 0 rfl pn pk on ok sn sk fun b hb => H b fun j => ?_⟩
  rw [hb j]
  by_cases e : j < 64
  · rw [if_pos e, if_pos ⟨Nat.zero_le j, e⟩]
  · rw [if_neg e, if_neg (fun z => e z.2)]
theorem cs_x_on_sn (post : SX → Prop) (f : Int32) : ∀ d i : Nat, i + d = 64 → ∀ pn pk on ok sn sk : Nat → Int32, (∀ b : Nat → Int32, (∀ j, b j = if i ≤ j ∧ j < 64 then on j else sn j) → post (f, pn, pk, on, ok, b, sk)) → wX_copyCells__openNumbers_settledNumbers_2 post f (d + 1) (nI i) pn pk on ok sn sk := by
  intro d
  induction d with
  | zero =>
    intro i hi pn pk on ok sn sk H
    have h : (64 : Int32) ≤ nI i := nI_le (a := 64) (by omega) (by omega)
    exact br_t h (H sn fun j => by rw [if_neg (by omega)])
  | succ d ih =>
    intro i hi pn pk on ok sn sk H
    have h : ¬ (64 : Int32) ≤ nI i := nI_ge (b := 64) (by omega) (by decide)
    have hv : vp_in (nI i) 64 := vp_in_nI (by omega) (by decide)
    refine br_f h ⟨hv, hv, fun c ec y ey => ?_⟩
    rw [ec, ey, nI_1, nI_clamp (by omega)]
    refine ih (i + 1) (by omega) pn pk on ok (upd sn i (on i)) sk fun b hb => H b fun j => ?_
    rw [hb j]
    by_cases e : j = i
    · subst e
      rw [if_neg (by omega), if_pos (by omega), pk_us]
    · rw [pk_un e]
      by_cases e2 : i ≤ j ∧ j < 64
      · rw [if_pos e2, if_pos (by omega)]
      · rw [if_neg e2, if_neg (by omega)]
theorem cs_p_on_sn {post : SX → Prop} {f : Int32} {pn pk on ok sn sk : Nat → Int32} (H : ∀ b : Nat → Int32, (∀ j, b j = if j < 64 then on j else sn j) → post (f, pn, pk, on, ok, b, sk)) : wpX_copyCells__openNumbers_settledNumbers post (f, pn, pk, on, ok, sn, sk) := by
  unfold wpX_copyCells__openNumbers_settledNumbers
  refine ⟨64 + 1, cs_x_on_sn post f 64 0 rfl pn pk on ok sn sk fun b hb => H b fun j => ?_⟩
  rw [hb j]
  by_cases e : j < 64
  · rw [if_pos e, if_pos ⟨Nat.zero_le j, e⟩]
  · rw [if_neg e, if_neg (fun z => e z.2)]
theorem cs_x_ok_sk (post : SX → Prop) (f : Int32) : ∀ d i : Nat, i + d = 64 → ∀ pn pk on ok sn sk : Nat → Int32, (∀ b : Nat → Int32, (∀ j, b j = if i ≤ j ∧ j < 64 then ok j else sk j) → post (f, pn, pk, on, ok, sn, b)) → wX_copyCells__openKeys_settledKeys_2 post f (d + 1) (nI i) pn pk on ok sn sk := by
  intro d
  induction d with
  | zero =>
    intro i hi pn pk on ok sn sk H
    have h : (64 : Int32) ≤ nI i := nI_le (a := 64) (by omega) (by omega)
    exact br_t h (H sk fun j => by rw [if_neg (by omega)])
  | succ d ih =>
    intro i hi pn pk on ok sn sk H
    have h : ¬ (64 : Int32) ≤ nI i := nI_ge (b := 64) (by omega) (by decide)
    have hv : vp_in (nI i) 64 := vp_in_nI (by omega) (by decide)
    refine br_f h ⟨hv, hv, fun c ec y ey => ?_⟩
    rw [ec, ey, nI_1, nI_clamp (by omega)]
    refine ih (i + 1) (by omega) pn pk on ok sn (upd sk i (ok i)) fun b hb => H b fun j => ?_
    rw [hb j]
    by_cases e : j = i
    · subst e
      rw [if_neg (by omega), if_pos (by omega), pk_us]
    · rw [pk_un e]
      by_cases e2 : i ≤ j ∧ j < 64
      · rw [if_pos e2, if_pos (by omega)]
      · rw [if_neg e2, if_neg (by omega)]
theorem cs_p_ok_sk {post : SX → Prop} {f : Int32} {pn pk on ok sn sk : Nat → Int32} (H : ∀ b : Nat → Int32, (∀ j, b j = if j < 64 then ok j else sk j) → post (f, pn, pk, on, ok, sn, b)) : wpX_copyCells__openKeys_settledKeys post (f, pn, pk, on, ok, sn, sk) := by
  unfold wpX_copyCells__openKeys_settledKeys
  refine ⟨64 + 1, cs_x_ok_sk post f 64 0 rfl pn pk on ok sn sk fun b hb => H b fun j => ?_⟩
  rw [hb j]
  by_cases e : j < 64
  · rw [if_pos e, if_pos ⟨Nat.zero_le j, e⟩]
  · rw [if_neg e, if_neg (fun z => e z.2)]
theorem cs_x_sn_pn (post : SX → Prop) (f : Int32) : ∀ d i : Nat, i + d = 64 → ∀ pn pk on ok sn sk : Nat → Int32, (∀ b : Nat → Int32, (∀ j, b j = if i ≤ j ∧ j < 64 then sn j else pn j) → post (f, b, pk, on, ok, sn, sk)) → wX_copyCells__settledNumbers_presentNumbers_2 post f (d + 1) (nI i) pn pk on ok sn sk := by
  intro d
  induction d with
  | zero =>
    intro i hi pn pk on ok sn sk H
    have h : (64 : Int32) ≤ nI i := nI_le (a := 64) (by omega) (by omega)
    exact br_t h (H pn fun j => by rw [if_neg (by omega)])
  | succ d ih =>
    intro i hi pn pk on ok sn sk H
    have h : ¬ (64 : Int32) ≤ nI i := nI_ge (b := 64) (by omega) (by decide)
    have hv : vp_in (nI i) 64 := vp_in_nI (by omega) (by decide)
    refine br_f h ⟨hv, hv, fun c ec y ey => ?_⟩
    rw [ec, ey, nI_1, nI_clamp (by omega)]
    refine ih (i + 1) (by omega) (upd pn i (sn i)) pk on ok sn sk fun b hb => H b fun j => ?_
    rw [hb j]
    by_cases e : j = i
    · subst e
      rw [if_neg (by omega), if_pos (by omega), pk_us]
    · rw [pk_un e]
      by_cases e2 : i ≤ j ∧ j < 64
      · rw [if_pos e2, if_pos (by omega)]
      · rw [if_neg e2, if_neg (by omega)]
theorem cs_p_sn_pn {post : SX → Prop} {f : Int32} {pn pk on ok sn sk : Nat → Int32} (H : ∀ b : Nat → Int32, (∀ j, b j = if j < 64 then sn j else pn j) → post (f, b, pk, on, ok, sn, sk)) : wpX_copyCells__settledNumbers_presentNumbers post (f, pn, pk, on, ok, sn, sk) := by
  unfold wpX_copyCells__settledNumbers_presentNumbers
  refine ⟨64 + 1, cs_x_sn_pn post f 64 0 rfl pn pk on ok sn sk fun b hb => H b fun j => ?_⟩
  rw [hb j]
  by_cases e : j < 64
  · rw [if_pos e, if_pos ⟨Nat.zero_le j, e⟩]
  · rw [if_neg e, if_neg (fun z => e z.2)]
theorem cs_x_sk_pk (post : SX → Prop) (f : Int32) : ∀ d i : Nat, i + d = 64 → ∀ pn pk on ok sn sk : Nat → Int32, (∀ b : Nat → Int32, (∀ j, b j = if i ≤ j ∧ j < 64 then sk j else pk j) → post (f, pn, b, on, ok, sn, sk)) → wX_copyCells__settledKeys_presentKeys_2 post f (d + 1) (nI i) pn pk on ok sn sk := by
  intro d
  induction d with
  | zero =>
    intro i hi pn pk on ok sn sk H
    have h : (64 : Int32) ≤ nI i := nI_le (a := 64) (by omega) (by omega)
    exact br_t h (H pk fun j => by rw [if_neg (by omega)])
  | succ d ih =>
    intro i hi pn pk on ok sn sk H
    have h : ¬ (64 : Int32) ≤ nI i := nI_ge (b := 64) (by omega) (by decide)
    have hv : vp_in (nI i) 64 := vp_in_nI (by omega) (by decide)
    refine br_f h ⟨hv, hv, fun c ec y ey => ?_⟩
    rw [ec, ey, nI_1, nI_clamp (by omega)]
    refine ih (i + 1) (by omega) pn (upd pk i (sk i)) on ok sn sk fun b hb => H b fun j => ?_
    rw [hb j]
    by_cases e : j = i
    · subst e
      rw [if_neg (by omega), if_pos (by omega), pk_us]
    · rw [pk_un e]
      by_cases e2 : i ≤ j ∧ j < 64
      · rw [if_pos e2, if_pos (by omega)]
      · rw [if_neg e2, if_neg (by omega)]
theorem cs_p_sk_pk {post : SX → Prop} {f : Int32} {pn pk on ok sn sk : Nat → Int32} (H : ∀ b : Nat → Int32, (∀ j, b j = if j < 64 then sk j else pk j) → post (f, pn, b, on, ok, sn, sk)) : wpX_copyCells__settledKeys_presentKeys post (f, pn, pk, on, ok, sn, sk) := by
  unfold wpX_copyCells__settledKeys_presentKeys
  refine ⟨64 + 1, cs_x_sk_pk post f 64 0 rfl pn pk on ok sn sk fun b hb => H b fun j => ?_⟩
  rw [hb j]
  by_cases e : j < 64
  · rw [if_pos e, if_pos ⟨Nat.zero_le j, e⟩]
  · rw [if_neg e, if_neg (fun z => e z.2)]
theorem cs_y_snapshot_16 (post : Int32 → SY → Prop) (g : Int32) : ∀ n i : Nat, i + n = 64 → ∀ ik hd oi oh si sh : Nat → Int32, (∀ c d : Nat → Int32, (∀ j, c j = if i ≤ j ∧ j < 64 then vp_nar .boolean (ik j) else oi j) → (∀ j, d j = if i ≤ j ∧ j < 64 then hd j else oh j) → post 0 (g, ik, hd, c, d, si, sh)) → wY_snapshot_16 post g (n + 1) (nI i) ik hd oi oh si sh := by
  intro n
  induction n with
  | zero =>
    intro i hi ik hd oi oh si sh H
    have h : (64 : Int32) ≤ nI i := nI_le (a := 64) (by omega) (by omega)
    exact br_t h (H oi oh (fun j => by rw [if_neg (by omega)]) (fun j => by rw [if_neg (by omega)]))
  | succ n ih =>
    intro i hi ik hd oi oh si sh H
    have h : ¬ (64 : Int32) ≤ nI i := nI_ge (b := 64) (by omega) (by decide)
    have hv : vp_in (nI i) 64 := vp_in_nI (by omega) (by decide)
    refine br_f h ⟨hv, hv, fun p ep => ⟨hv, hv, fun q eq y ey => ?_⟩⟩
    rw [ep, eq, ey, nI_1, nI_clamp (by omega)]
    refine ih (i + 1) (by omega) ik hd (upd oi i (vp_nar .boolean (ik i))) (upd oh i (hd i)) si sh fun c d hc hd' => H c d (fun j => ?_) (fun j => ?_)
    · rw [hc j]
      by_cases e : j = i
      · subst e
        rw [if_neg (by omega), if_pos (by omega), pk_us]
      · rw [pk_un e]
        by_cases e2 : i ≤ j ∧ j < 64
        · rw [if_pos e2, if_pos (by omega)]
        · rw [if_neg e2, if_neg (by omega)]
    · rw [hd' j]
      by_cases e : j = i
      · subst e
        rw [if_neg (by omega), if_pos (by omega), pk_us]
      · rw [pk_un e]
        by_cases e2 : i ≤ j ∧ j < 64
        · rw [if_pos e2, if_pos (by omega)]
        · rw [if_neg e2, if_neg (by omega)]
theorem cs_q_snapshot_16 {post : Int32 → SY → Prop} {g : Int32} {ik hd oi oh si sh : Nat → Int32} (H : ∀ c d : Nat → Int32, (∀ j, c j = if j < 64 then vp_nar .boolean (ik j) else oi j) → (∀ j, d j = if j < 64 then hd j else oh j) → post 0 (g, ik, hd, c, d, si, sh)) : ∃ n : Nat, wY_snapshot_16 post g n 0 ik hd oi oh si sh := by
  refine ⟨64 + 1, cs_y_snapshot_16 post g 64 0 rfl ik hd oi oh si sh fun c d hc hd' => H c d (fun j => ?_) (fun j => ?_)⟩
  · rw [hc j]
    by_cases e : j < 64
    · rw [if_pos e, if_pos ⟨Nat.zero_le j, e⟩]
    · rw [if_neg e, if_neg (fun z => e z.2)]
  · rw [hd' j]
    by_cases e : j < 64
    · rw [if_pos e, if_pos ⟨Nat.zero_le j, e⟩]
    · rw [if_neg e, if_neg (fun z => e z.2)]
theorem cs_y_settle_16 (post : Int32 → SY → Prop) (g : Int32) : ∀ n i : Nat, i + n = 64 → ∀ ik hd oi oh si sh : Nat → Int32, (∀ c d : Nat → Int32, (∀ j, c j = if i ≤ j ∧ j < 64 then vp_nar .boolean (oi j) else si j) → (∀ j, d j = if i ≤ j ∧ j < 64 then oh j else sh j) → post 0 (g, ik, hd, oi, oh, c, d)) → wY_settle_16 post g (n + 1) (nI i) ik hd oi oh si sh := by
  intro n
  induction n with
  | zero =>
    intro i hi ik hd oi oh si sh H
    have h : (64 : Int32) ≤ nI i := nI_le (a := 64) (by omega) (by omega)
    exact br_t h (H si sh (fun j => by rw [if_neg (by omega)]) (fun j => by rw [if_neg (by omega)]))
  | succ n ih =>
    intro i hi ik hd oi oh si sh H
    have h : ¬ (64 : Int32) ≤ nI i := nI_ge (b := 64) (by omega) (by decide)
    have hv : vp_in (nI i) 64 := vp_in_nI (by omega) (by decide)
    refine br_f h ⟨hv, hv, fun p ep => ⟨hv, hv, fun q eq y ey => ?_⟩⟩
    rw [ep, eq, ey, nI_1, nI_clamp (by omega)]
    refine ih (i + 1) (by omega) ik hd oi oh (upd si i (vp_nar .boolean (oi i))) (upd sh i (oh i)) fun c d hc hd' => H c d (fun j => ?_) (fun j => ?_)
    · rw [hc j]
      by_cases e : j = i
      · subst e
        rw [if_neg (by omega), if_pos (by omega), pk_us]
      · rw [pk_un e]
        by_cases e2 : i ≤ j ∧ j < 64
        · rw [if_pos e2, if_pos (by omega)]
        · rw [if_neg e2, if_neg (by omega)]
    · rw [hd' j]
      by_cases e : j = i
      · subst e
        rw [if_neg (by omega), if_pos (by omega), pk_us]
      · rw [pk_un e]
        by_cases e2 : i ≤ j ∧ j < 64
        · rw [if_pos e2, if_pos (by omega)]
        · rw [if_neg e2, if_neg (by omega)]
theorem cs_q_settle_16 {post : Int32 → SY → Prop} {g : Int32} {ik hd oi oh si sh : Nat → Int32} (H : ∀ c d : Nat → Int32, (∀ j, c j = if j < 64 then vp_nar .boolean (oi j) else si j) → (∀ j, d j = if j < 64 then oh j else sh j) → post 0 (g, ik, hd, oi, oh, c, d)) : ∃ n : Nat, wY_settle_16 post g n 0 ik hd oi oh si sh := by
  refine ⟨64 + 1, cs_y_settle_16 post g 64 0 rfl ik hd oi oh si sh fun c d hc hd' => H c d (fun j => ?_) (fun j => ?_)⟩
  · rw [hc j]
    by_cases e : j < 64
    · rw [if_pos e, if_pos ⟨Nat.zero_le j, e⟩]
    · rw [if_neg e, if_neg (fun z => e z.2)]
  · rw [hd' j]
    by_cases e : j < 64
    · rw [if_pos e, if_pos ⟨Nat.zero_le j, e⟩]
    · rw [if_neg e, if_neg (fun z => e z.2)]
theorem cs_y_crash_7 (post : SY → Prop) (g : Int32) : ∀ n i : Nat, i + n = 64 → ∀ ik hd oi oh si sh : Nat → Int32, (∀ c d : Nat → Int32, (∀ j, c j = if i ≤ j ∧ j < 64 then vp_nar .boolean (si j) else ik j) → (∀ j, d j = if i ≤ j ∧ j < 64 then sh j else hd j) → post (g, c, d, oi, oh, si, sh)) → wY_crash_7 post (n + 1) (nI i) g ik hd oi oh si sh := by
  intro n
  induction n with
  | zero =>
    intro i hi ik hd oi oh si sh H
    have h : (64 : Int32) ≤ nI i := nI_le (a := 64) (by omega) (by omega)
    exact br_t h (H ik hd (fun j => by rw [if_neg (by omega)]) (fun j => by rw [if_neg (by omega)]))
  | succ n ih =>
    intro i hi ik hd oi oh si sh H
    have h : ¬ (64 : Int32) ≤ nI i := nI_ge (b := 64) (by omega) (by decide)
    have hv : vp_in (nI i) 64 := vp_in_nI (by omega) (by decide)
    refine br_f h ⟨hv, hv, ?_⟩
    refine cs_set (by omega) ?_
    dsimp only
    intro y ey
    rw [ey, nI_1, nI_clamp (by omega)]
    refine ih (i + 1) (by omega) (upd ik i (vp_nar .boolean (si i))) (upd hd i (sh i)) oi oh si sh fun c d hc hd' => H c d (fun j => ?_) (fun j => ?_)
    · rw [hc j]
      by_cases e : j = i
      · subst e
        rw [if_neg (by omega), if_pos (by omega), pk_us]
      · rw [pk_un e]
        by_cases e2 : i ≤ j ∧ j < 64
        · rw [if_pos e2, if_pos (by omega)]
        · rw [if_neg e2, if_neg (by omega)]
    · rw [hd' j]
      by_cases e : j = i
      · subst e
        rw [if_neg (by omega), if_pos (by omega), pk_us]
      · rw [pk_un e]
        by_cases e2 : i ≤ j ∧ j < 64
        · rw [if_pos e2, if_pos (by omega)]
        · rw [if_neg e2, if_neg (by omega)]
theorem cs_q_crash_7 {post : SY → Prop} {g : Int32} {ik hd oi oh si sh : Nat → Int32} (H : ∀ c d : Nat → Int32, (∀ j, c j = if j < 64 then vp_nar .boolean (si j) else ik j) → (∀ j, d j = if j < 64 then sh j else hd j) → post (g, c, d, oi, oh, si, sh)) : ∃ n : Nat, wY_crash_7 post n 0 g ik hd oi oh si sh := by
  refine ⟨64 + 1, cs_y_crash_7 post g 64 0 rfl ik hd oi oh si sh fun c d hc hd' => H c d (fun j => ?_) (fun j => ?_)⟩
  · rw [hc j]
    by_cases e : j < 64
    · rw [if_pos e, if_pos ⟨Nat.zero_le j, e⟩]
    · rw [if_neg e, if_neg (fun z => e z.2)]
  · rw [hd' j]
    by_cases e : j < 64
    · rw [if_pos e, if_pos ⟨Nat.zero_le j, e⟩]
    · rw [if_neg e, if_neg (fun z => e z.2)]
theorem i_vc_snapshot {k : Nat} {u : SX} {v : SY} (I : i_Rel k u v) (hk : k + 5 ≤ 2560) : wpX_snapshot (fun r u' => wpY_snapshot (fun r' v' => r' = r ∧ i_Rel (k + 5) u' v') v) u := by
  obtain ⟨f, pn, pk, on, ok, sn, sk⟩ := u
  obtain ⟨g, ik, hd, oi, oh, si, sh⟩ := v
  obtain ⟨e, hp, ho, hs⟩ := I
  dsimp only at e hp ho hs
  subst e
  unfold wpX_snapshot
  dsimp only
  by_cases z : g = 0
  · refine br_t z ?_
    refine cs_p_pn_on fun a ha => ?_
    dsimp only
    refine cs_p_pk_ok fun b hb => ?_
    dsimp only
    unfold wpY_snapshot
    dsimp only
    refine br_t z ?_
    refine cs_q_snapshot_16 fun c d hc hd' => ?_
    exact ⟨rfl, rfl, hp, cs_cpy hp ho ha hb hc hd', hs⟩
  · refine br_f z ?_
    unfold wpY_snapshot
    exact br_f z ⟨rfl, rfl, hp, ho, hs⟩
theorem i_vc_settle {k : Nat} {u : SX} {v : SY} (I : i_Rel k u v) (hk : k + 5 ≤ 2560) : wpX_settle (fun r u' => wpY_settle (fun r' v' => r' = r ∧ i_Rel (k + 5) u' v') v) u := by
  obtain ⟨f, pn, pk, on, ok, sn, sk⟩ := u
  obtain ⟨g, ik, hd, oi, oh, si, sh⟩ := v
  obtain ⟨e, hp, ho, hs⟩ := I
  dsimp only at e hp ho hs
  subst e
  unfold wpX_settle
  dsimp only
  by_cases z : g = 0
  · refine br_t z ?_
    unfold wpY_settle
    exact br_t z ⟨rfl, rfl, hp, ho, hs⟩
  · refine br_f z ?_
    refine cs_p_on_sn fun a ha => ?_
    dsimp only
    refine cs_p_ok_sk fun b hb => ?_
    dsimp only
    unfold wpY_settle
    dsimp only
    refine br_f z ?_
    refine cs_q_settle_16 fun c d hc hd' => ?_
    exact ⟨rfl, rfl, hp, ho, cs_cpy ho hs ha hb hc hd'⟩
theorem i_vc_crash {k : Nat} {u : SX} {v : SY} (I : i_Rel k u v) (hk : k + 5 ≤ 2560) : wpX_crash (fun u' => wpY_crash (fun v' => i_Rel (k + 5) u' v') v) u := by
  obtain ⟨f, pn, pk, on, ok, sn, sk⟩ := u
  obtain ⟨g, ik, hd, oi, oh, si, sh⟩ := v
  obtain ⟨e, hp, ho, hs⟩ := I
  dsimp only at e hp ho hs
  subst e
  unfold wpX_crash
  dsimp only
  refine cs_p_sn_pn fun a ha => ?_
  dsimp only
  refine cs_p_sk_pk fun b hb => ?_
  dsimp only
  unfold wpY_crash
  dsimp only
  refine cs_q_crash_7 fun c d hc hd' => ?_
  exact ⟨rfl, cs_cpy hs hp ha hb hc hd', ho, hs⟩
