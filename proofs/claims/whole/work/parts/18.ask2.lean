theorem yr_planned {post : Int32 → SY → Prop} (wr kn md op st ps bs : Int32) (co ef th ta de sp li ch ga pl be : Nat → Int32) {T s : Nat} (hT : T < 128) (hs : s < 32) (hok : yp_ok th ta sp) (p2 : Int32) {o : Option (List Nat)} (ho : mp_be (T / 4) none (mp_ws (yp_P co ef th ta de sp) (8 + T % 4) s) = o)
    (H : ∀ (kn md op st ps : Int32) (ch ga pl be : Nat → Int32), yw_BE be o → ((p2 < 0 → post (-1) (wr, kn, md, op, st, ps, mp_nS o, co, ef, th, ta, de, sp, li, ch, ga, pl, be)) ∧ (¬ p2 < 0 → ((mp_nS o ≤ p2 → post (-1) (wr, kn, md, op, st, ps, mp_nS o, co, ef, th, ta, de, sp, li, ch, ga, pl, be)) ∧ (¬ mp_nS o ≤ p2 → (vp_in p2 16 ∧ post (be p2.toNatClampNeg) (wr, kn, md, op, st, ps, mp_nS o, co, ef, th, ta, de, sp, li, ch, ga, pl, be))))))) :
    wpY_planned post (wr, kn, md, op, st, ps, bs, co, ef, th, ta, de, sp, li, ch, ga, pl, be) (nI T) (nI s) p2 := by
  subst ho
  unfold wpY_planned
  dsimp only
  have e3 : nI T &&& 3 = nI (T % 4) := pk_andN (by omega) 2 (by decide)
  have e2 : nI T >>> ((2 : Int32) &&& 31) = nI (T / 4) := pk_shrN (by omega) _ 2 (by decide)
  refine br_f (nI_pos (by omega)) (br_f (nI_nlt (a := 127) (by omega) (by decide)) ?_)
  refine yw_isState hs ?_
  refine br_f (by decide) ?_
  rw [e3, e2]
  refine yw_search _ _ _ _ _ _ _ _ _ _ _ _ _ _ _ _ _ _ (by omega) hs (by omega) hok (fun x hx => (xr_pg hok (by omega) hs hx).2) ?_
  intro kn md op st ps ch ga pl be hbe
  exact H kn md op st ps ch ga pl be hbe
theorem i_vc_planned {k : Nat} {u : SX} {v : SY} (I : i_Rel k u v) (hk : k + 4 ≤ 2048) (v1 : Int32) (v2 : Int32) (v3 : Int32) : wpX_planned (fun r => wpY_planned (fun r' v' => r' = r ∧ i_Rel (k + 4) u v') v v1 v2 v3) u v1 v2 v3 := by
  have I' := i_up I
  obtain ⟨l, ms, ac, ae, mt, mc, mf, sd, li, wc, fp, sa, pa, kn, md, op, st, ps, bs, th, sp, ch, ga, pl, be, rfl, rfl, h⟩ := I
  have h' := h
  obtain ⟨r1, r2, r3, r4, r5, r6⟩ := h'
  unfold wpX_planned
  dsimp only
  rcases xr_dom v1 128 (by decide) with hb | ⟨T, hT, rfl⟩
  · rcases hb with h0 | h6
    · refine br_t h0 ?_
      exact br_t h0 ⟨rfl, I'⟩
    · refine br_f (xr_pos h6 (by decide)) (br_t h6 ?_)
      exact br_f (xr_pos h6 (by decide)) (br_t (xr_lt_le (by decide) h6) ⟨rfl, I'⟩)
  refine br_f (nI_pos (by omega)) (br_f (nI_ge (b := 128) hT (by decide)) ?_)
  rcases xr_dom v2 32 (by decide) with hb | ⟨s, hs, rfl⟩
  · refine xw_isState0 hb ?_
    refine br_t rfl ?_
    unfold wpY_planned
    dsimp only
    refine br_f (nI_pos (by omega)) (br_f (nI_nlt (a := 127) (by omega) (by decide)) ?_)
    refine yw_isState0 hb ?_
    exact br_t rfl ⟨rfl, I'⟩
  refine xw_isState hs ?_
  have er : nI T - nI T / 4 * 4 = nI (T % 4) := pk_rem (a := T) (d := 4) (by omega) (by omega) (by omega)
  have ed : nI T / 4 = nI (T / 4) := pk_div (a := T) (d := 4) (by omega) (by omega) (by omega)
  refine br_f (by decide) ⟨by decide, nm_r er ⟨by decide, nm_r ed ?_⟩⟩
  have e8 : (8 : Int32) + nI (T % 4) = nI (8 + T % 4) := nI_add 8 _
  rw [e8]
  refine xw_rowOf ?_
  have hce := r6 (8 + T % 4) (by omega) (by omega) s hs (T / 4) (by omega)
  have hin : vp_in (nI (((8 + T % 4) * 32 + s) * 32 + T / 4)) 12288 := vp_in_nI (by omega) (by decide)
  rw [nI_add, nI_clamp (by omega : ((8 + T % 4) * 32 + s) * 32 + T / 4 < 2 ^ 31), hce.1]
  refine ⟨hin, ?_⟩
  rcases xr_best r4 (by omega) hs hce with ⟨z, hbe⟩ | ⟨z, b, hb, hf, hbe⟩
  · rw [z]
    refine br_t rfl ?_
    refine yr_planned _ _ _ _ _ _ _ _ _ _ _ _ _ _ _ _ _ _ hT hs r4 v3 hbe ?_
    intro kn md op st ps ch ga pl be _
    refine br_c (fun _ => ⟨rfl, xr_mk _ h⟩) (fun hn => br_t ?_ ⟨rfl, xr_mk _ h⟩)
    show (-1 : Int32) ≤ v3
    rw [Int32.lt_iff_toInt_lt] at hn
    rw [Int32.le_iff_toInt_le]
    have h0 : (0 : Int32).toInt = 0 := by decide
    have h1 : (-1 : Int32).toInt = -1 := by decide
    omega
  · have hbl := hb.1
    refine br_f (nI_ne0 z (xr_cnb r4 _ (by omega) hs)) ⟨hin, nm_r hf ?_⟩
    unfold wpX_lengthOf
    rw [xw_len hb]
    by_cases hn : v3 < 0
    · refine br_t hn ?_
      refine yr_planned _ _ _ _ _ _ _ _ _ _ _ _ _ _ _ _ _ _ hT hs r4 v3 hbe ?_
      intro kn md op st ps ch ga pl be _
      exact br_t hn ⟨rfl, xr_mk _ h⟩
    obtain ⟨j, hj, rfl⟩ := nI_of hn
    refine br_f hn (pk_lt j b.length (fun y => ?_) (fun y => ?_) rfl rfl hj)
    · have e1 : (nI b.length - 1) - nI j = nI (b.length - 1 - j) := by
        have e2 := pk_sub (a := b.length) (b := 1) (by omega)
        have e3 : nI b.length - 1 = nI (b.length - 1) := e2
        rw [e3, pk_sub (by omega)]
      refine nm_r e1 ?_
      have e3 : (3 : Int32) * nI (b.length - 1 - j) = nI (3 * (b.length - 1 - j)) := pk_mul 3 _
      rw [e3, xw_digit hb y]
      refine yr_planned _ _ _ _ _ _ _ _ _ _ _ _ _ _ _ _ _ _ hT hs r4 _ hbe ?_
      intro kn md op st ps ch ga pl be hBE
      have hat := yw_CH_at y hBE.2.1
      rw [Nat.zero_add] at hat
      refine br_f hn (br_f (nI_ge y (by omega)) ⟨vp_in_nI (by omega) (by decide), ?_⟩)
      rw [nI_clamp hj]
      exact ⟨hat, xr_mk _ h⟩
    · refine yr_planned _ _ _ _ _ _ _ _ _ _ _ _ _ _ _ _ _ _ hT hs r4 _ hbe ?_
      intro kn md op st ps ch ga pl be hBE
      exact br_f hn (br_t (nI_le y hj) ⟨rfl, xr_mk _ h⟩)
theorem i_vc_accounts {k : Nat} {u : SX} {v : SY} (I : i_Rel k u v) (hk : k + 4 ≤ 2048) (v1 : Int32) (v2 : Int32) : wpX_accounts (fun r u' => wpY_accounts (fun r' v' => r' = r ∧ i_Rel (k + 4) u' v') v v1 v2) u v1 v2 := by
  have I' := i_up I
  obtain ⟨l, ms, ac, ae, mt, mc, mf, sd, li, wc, fp, sa, pa, kn, md, op, st, ps, bs, th, sp, ch, ga, pl, be, rfl, rfl, h⟩ := I
  have h' := h
  obtain ⟨r1, r2, r3, r4, r5, r6⟩ := h'
  rcases xr_dom v1 4 (by decide) with hb | ⟨t, ht, rfl⟩
  · unfold wpX_accounts
    dsimp only
    refine xw_isTask0 hb ?_
    refine br_t rfl ⟨1, ?_⟩
    rw [wY_accounts_7]
    refine yw_task0 hb ?_
    exact br_t rfl ⟨rfl, rfl, xr_mk _ h⟩
  rcases xr_dom v2 32 (by decide) with hb | ⟨s, hs, rfl⟩
  · unfold wpX_accounts
    dsimp only
    refine xw_isTask ht ?_
    refine br_f (by decide) ?_
    refine xw_isState0 hb ?_
    refine br_t rfl ⟨1, ?_⟩
    rw [wY_accounts_7]
    refine yw_task ht ?_
    refine br_f (by decide) ?_
    refine yw_isState0 hb ?_
    exact br_t rfl ⟨rfl, rfl, xr_mk _ h⟩
  refine xw_accounts _ _ _ _ _ _ _ _ _ _ _ _ r4 r5 r1 r2 r3 ht hs ?_
  intro sa' pa'
  refine ⟨_, yw_acc7 _ _ _ _ _ _ _ _ _ ht hs r4 r1 r2 (fun a ha => by have := r3 a ha; omega) _ _ _ _ _ _ _ _ _ _ (Nat.lt_succ_self _) (fun x hx => (xr_pg r4 ht hs hx).2) (yw_OM0 r4 ht s ch) ?_⟩
  intro kn md op st ps ch ga pl
  exact ⟨rfl, xr_mk _ h⟩
theorem i_vc_after {k : Nat} {u : SX} {v : SY} (I : i_Rel k u v) (hk : k + 4 ≤ 2048) (v1 : Int32) : wpX_after (fun r u' => wpY_after (fun r' => r' = r ∧ i_Rel (k + 4) u' v) v v1) u v1 := by
  have I' := i_up I
  obtain ⟨l, ms, ac, ae, mt, mc, mf, sd, li, wc, fp, sa, pa, kn, md, op, st, ps, bs, th, sp, ch, ga, pl, be, rfl, rfl, h⟩ := I
  have h' := h
  obtain ⟨r1, r2, r3, r4, r5, r6⟩ := h'
  unfold wpX_after wpY_after
  dsimp only
  rcases xr_dom v1 32 (by decide) with hb | ⟨s, hs, rfl⟩
  · refine xw_isState0 hb ?_
    refine br_t rfl ?_
    refine yw_isState0 hb ?_
    refine br_t rfl ⟨1, ?_⟩
    exact br_c (fun _ => ⟨rfl, I'⟩) (fun _ => br_t (by decide) ⟨rfl, I'⟩)
  refine xw_isState hs ?_
  refine br_f (by decide) ?_
  refine xw_walk _ _ _ _ _ _ _ _ _ _ _ _ th sp r1 r2 r3 hs (fun hn sa' => ?_) (fun e he he32 sa' _ => ?_)
  · refine yw_isState hs ?_
    refine br_f (by decide) ⟨l.length + 2, yw_after16 _ _ _ _ _ _ _ _ _ _ _ _ _ _ _ _ _ r1 l 0 _ s (by omega) (by omega) r2 r3 hs ?_⟩
    rw [hn]
    exact ⟨rfl, xr_mk _ h⟩
  · refine yw_isState hs ?_
    refine br_f (by decide) ⟨l.length + 2, yw_after16 _ _ _ _ _ _ _ _ _ _ _ _ _ _ _ _ _ r1 l 0 _ s (by omega) (by omega) r2 r3 hs ?_⟩
    rw [he]
    exact ⟨rfl, xr_mk _ h⟩
theorem i_vc_doable {k : Nat} {u : SX} {v : SY} (I : i_Rel k u v) (hk : k + 4 ≤ 2048) (v1 : Int32) : wpX_doable (fun r => wpY_doable (fun r' v' => r' = r ∧ i_Rel (k + 4) u v') v v1) u v1 := by
  have I' := i_up I
  obtain ⟨l, ms, ac, ae, mt, mc, mf, sd, li, wc, fp, sa, pa, kn, md, op, st, ps, bs, th, sp, ch, ga, pl, be, rfl, rfl, h⟩ := I
  have h' := h
  obtain ⟨r1, r2, r3, r4, r5, r6⟩ := h'
  unfold wpX_doable wpY_doable
  dsimp only
  rcases xr_dom v1 32 (by decide) with hb | ⟨s, hs, rfl⟩
  · refine xw_isState0 hb ?_
    refine br_t rfl ⟨1, ?_⟩
    refine br_f (by decide) ?_
    refine yw_isState0 hb ?_
    refine br_t rfl ?_
    unfold wY_doable_47
    refine yw_isState0 hb ?_
    exact br_t rfl ⟨rfl, I'⟩
  refine xw_isState hs ?_
  refine br_f (by decide) ⟨5, xw_doable13 _ _ _ _ _ _ _ _ _ _ _ _ _ (yp_mok (co := ac) (ef := ae) (de := mc) r4) hs (fun t ht => r6 (8 + t) (by omega) (by omega)) (fun v e hv => xr_cnb r4 e hv hs) 4 0 5 0 (by omega) (by omega) ?_⟩
  refine ⟨5, yw_doable4 _ _ _ _ _ _ _ _ _ _ hs r4 4 0 5 0 _ _ _ _ _ _ _ _ (by omega) (by omega) ?_⟩
  intro kn md op st ps ch ga pl
  exact ⟨rfl, xr_mk _ h⟩
theorem i_vc_useless {k : Nat} {u : SX} {v : SY} (I : i_Rel k u v) (hk : k + 4 ≤ 2048) (v1 : Int32) : wpX_useless (fun r => wpY_useless (fun r' v' => r' = r ∧ i_Rel (k + 4) u v') v v1) u v1 := by
  have I' := i_up I
  obtain ⟨l, ms, ac, ae, mt, mc, mf, sd, li, wc, fp, sa, pa, kn, md, op, st, ps, bs, th, sp, ch, ga, pl, be, rfl, rfl, h⟩ := I
  have h' := h
  obtain ⟨r1, r2, r3, r4, r5, r6⟩ := h'
  unfold wpX_useless wpY_useless
  dsimp only
  rcases xr_dom v1 8 (by decide) with hb | ⟨m, hm, rfl⟩
  · refine xw_has0 _ _ _ _ _ _ _ _ _ _ _ _ _ hb ?_
    refine br_t rfl ?_
    rcases hb with h0 | h6
    · exact br_t h0 ⟨rfl, I'⟩
    · exact br_f (xr_pos h6 (by decide)) (br_t (xr_lt_le (by decide) h6) ⟨rfl, I'⟩)
  have y1 : ¬ nI m < 0 := nI_pos (by omega)
  have y2 : ¬ (7 : Int32) < nI m := nI_nlt (a := 7) (by omega) (by decide)
  have hin : vp_in (nI m) 8 := vp_in_nI hm (by decide)
  have hcl : (nI m).toNatClampNeg = m := nI_clamp (by omega)
  refine xw_has _ _ _ _ _ _ _ _ _ _ _ _ _ r5.1 hm ?_
  by_cases z : th m = 0
  · rw [if_pos z]
    refine br_t rfl ?_
    refine br_f y1 (br_f y2 ⟨hin, ?_⟩)
    rw [hcl]
    exact br_t z ⟨rfl, I'⟩
  rw [if_neg z]
  have ok := yp_mok (co := ac) (ef := ae) (de := mc) r4
  obtain ⟨t, kk, ht, e1, hkk, e2, s1, s2⟩ := (r4 m hm).2 z
  have hone : th m = 1 := by
    rcases (r4 m hm).1 with e | e
    · exact absurd e z
    · exact e
  have hu : ∀ t' s, t' < 4 → mp_app (yp_P ac ae th mt mc sp) t' m s = true → t' = t := by
    intro t' s ht' ha
    obtain ⟨_, g2, _⟩ := yp_app.mp ha
    exact (nI_eq (by omega) (by omega)).mp (g2.symm.trans e1)
  have hus := mp_useless ok hm ht hu
  have hbd : ∀ t s, t < 4 → s < 32 → (mp_ws (yp_P ac ae th mt mc sp) (8 + t) s).length < 2 ^ 31 ∧ (mp_ws (yp_P ac ae (upd th m 0) mt mc sp) (8 + t) s).length < 2 ^ 31 := by
    intro t s ht hs
    refine ⟨Nat.lt_of_le_of_lt (mp_len_b ok (xw_tk r4) (by omega) hs) (by decide), Nat.lt_of_le_of_lt (mp_len_b (yp_mok (yp_ok_upd0 r4)) (xw_tk (yp_ok_upd0 r4)) (by omega) hs) (by decide)⟩
  refine br_f (by decide) ⟨33, xw_useless12 _ _ _ _ _ _ _ _ _ _ _ _ _ r4 r5 ht hm z e1 r6 (fun hyes => ?_) (fun hno => ?_) 32 0 33 (by omega) (by omega) (fun i hi => by omega)⟩
  · refine br_f y1 (br_f y2 ⟨hin, ?_⟩)
    rw [hcl]
    refine br_f z ⟨130, yw_useless25 _ _ _ _ _ _ _ _ _ _ hm r4 hone hbd 128 0 130 _ _ _ _ _ _ _ _ (by omega) (by omega) (fun _ kn md op st ps ch ga pl => ⟨rfl, xr_mk _ h⟩) (fun hex => ?_)⟩
    obtain ⟨i, i1, i2, i3⟩ := hex
    rw [xw_rmP] at i3
    exact absurd (hus.mpr hyes i i1 i2) i3
  · refine br_f y1 (br_f y2 ⟨hin, ?_⟩)
    rw [hcl]
    refine br_f z ⟨130, yw_useless25 _ _ _ _ _ _ _ _ _ _ hm r4 hone hbd 128 0 130 _ _ _ _ _ _ _ _ (by omega) (by omega) (fun hall => ?_) (fun _ kn md op st ps ch ga pl => ⟨rfl, xr_mk _ h⟩)⟩
    rw [xw_rmP] at hall
    exact absurd (hus.mp hall) hno
