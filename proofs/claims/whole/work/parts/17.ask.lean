theorem xr_cnb {ac ae th mt mc sp : Nat → Int32} (hok : yp_ok th mt sp) {v s : Nat} (e : Nat) (hv : v ≤ 11) (hs : s < 32) : mp_cn (yp_P ac ae th mt mc sp) v s e < 2 ^ 31 :=
  Nat.lt_of_le_of_lt (xw_cnb hok e hv hs) (by decide)
theorem xr_pg {ac ae th mt mc sp : Nat → Int32} (hok : yp_ok th mt sp) {t s : Nat} (ht : t < 4) (hs : s < 32) {x : Nat × List Nat} (hx : x ∈ mp_ws (yp_P ac ae th mt mc sp) (8 + t) s) : mp_pg x.2 := by
  obtain ⟨g1, g2, g3, g4⟩ := mp_ws_good (yp_mok hok) (by omega) (by omega) hs hx
  have := xw_an16 t ht
  exact ⟨by omega, fun a ha => by have := g3 a ha; omega⟩
theorem i_vc_ways {k : Nat} {u : SX} {v : SY} (I : i_Rel k u v) (hk : k + 4 ≤ 2048) (v1 : Int32) (v2 : Int32) (v3 : Int32) : wpX_ways (fun r => wpY_ways (fun r' v' => r' = r ∧ i_Rel (k + 4) u v') v v1 v2 v3) u v1 v2 v3 := by
  have I' := i_up I
  obtain ⟨l, ms, ac, ae, mt, mc, mf, sd, li, wc, fp, sa, pa, kn, md, op, st, ps, bs, th, sp, ch, ga, pl, be, rfl, rfl, h⟩ := I
  have h' := h
  obtain ⟨r1, r2, r3, r4, r5, r6⟩ := h'
  unfold wpX_ways wpY_ways
  dsimp only
  rcases xr_dom v1 4 (by decide) with hb | ⟨t, ht, rfl⟩
  · refine xw_isTask0 hb ?_
    refine br_t rfl ?_
    refine yw_task0 hb ?_
    exact br_t rfl ⟨rfl, I'⟩
  refine xw_isTask ht ?_
  refine br_f (by decide) ?_
  rcases xr_dom v2 32 (by decide) with hb | ⟨s, hs, rfl⟩
  · refine xw_isState0 hb ?_
    refine br_t rfl ?_
    refine yw_task ht ?_
    refine br_f (by decide) ?_
    refine yw_isState0 hb ?_
    exact br_t rfl ⟨rfl, I'⟩
  refine xw_isState hs ?_
  refine br_f (by decide) ?_
  rcases xr_dom v3 32 (by decide) with hb | ⟨d, hd, rfl⟩
  · refine xw_isState0 hb ?_
    refine br_t rfl ?_
    refine yw_task ht ?_
    refine br_f (by decide) ?_
    refine yw_isState hs ?_
    refine br_f (by decide) ?_
    refine yw_isState0 hb ?_
    exact br_t rfl ⟨rfl, I'⟩
  refine xw_isState hd ?_
  refine br_f (by decide) ?_
  have e8 : (8 : Int32) + nI t = nI (8 + t) := nI_add 8 t
  rw [e8]
  refine xw_rowOf ?_
  rw [nI_add, nI_clamp (by omega : ((8 + t) * 32 + s) * 32 + d < 2 ^ 31), (r6 (8 + t) (by omega) (by omega) s hs d hd).1]
  refine ⟨vp_in_nI (by omega) (by decide), ?_⟩
  refine yw_task ht ?_
  refine br_f (by decide) ?_
  refine yw_isState hs ?_
  refine br_f (by decide) ?_
  refine yw_isState hd ?_
  refine br_f (by decide) ?_
  refine yw_countE _ _ _ _ _ _ _ _ _ _ _ _ _ _ _ _ _ _ ht hs hd r4 ?_
  intro kn md op st ps ch ga pl
  exact ⟨rfl, xr_mk _ h⟩
theorem i_vc_allWays {k : Nat} {u : SX} {v : SY} (I : i_Rel k u v) (hk : k + 4 ≤ 2048) (v1 : Int32) (v2 : Int32) : wpX_allWays (fun r => wpY_allWays (fun r' v' => r' = r ∧ i_Rel (k + 4) u v') v v1 v2) u v1 v2 := by
  have I' := i_up I
  obtain ⟨l, ms, ac, ae, mt, mc, mf, sd, li, wc, fp, sa, pa, kn, md, op, st, ps, bs, th, sp, ch, ga, pl, be, rfl, rfl, h⟩ := I
  have h' := h
  obtain ⟨r1, r2, r3, r4, r5, r6⟩ := h'
  unfold wpX_allWays wpY_allWays
  dsimp only
  rcases xr_dom v1 4 (by decide) with hb | ⟨t, ht, rfl⟩
  · refine xw_isTask0 hb ?_
    refine br_t rfl ?_
    refine yw_task0 hb ?_
    exact br_t rfl ⟨rfl, I'⟩
  refine xw_isTask ht ?_
  refine br_f (by decide) ?_
  rcases xr_dom v2 32 (by decide) with hb | ⟨s, hs, rfl⟩
  · refine xw_isState0 hb ?_
    refine br_t rfl ?_
    refine yw_task ht ?_
    refine br_f (by decide) ?_
    refine yw_isState0 hb ?_
    exact br_t rfl ⟨rfl, I'⟩
  refine xw_isState hs ?_
  refine br_f (by decide) ?_
  have e8 : (8 : Int32) + nI t = nI (8 + t) := nI_add 8 t
  rw [e8]
  refine xw_rowOf ?_
  have hlen : (mp_ws (yp_P ac ae th mt mc sp) (8 + t) s).length = mp_su (mp_cn (yp_P ac ae th mt mc sp) (8 + t) s) 32 := mp_len_ct _ (fun x hx => (mp_ws_good (yp_mok r4) (by omega) (by omega) hs hx).1)
  refine ⟨33, xw_all31 _ _ _ _ _ _ _ _ _ _ _ _ _ (by omega) hs (r6 (8 + t) (by omega) (by omega)) ?_ 32 0 33 (by omega) (by omega)⟩
  refine yw_task ht ?_
  refine br_f (by decide) ?_
  refine yw_isState hs ?_
  refine br_f (by decide) ?_
  refine yw_countA _ _ _ _ _ _ _ _ _ _ _ _ _ _ _ _ _ _ ht hs r4 ?_
  intro kn md op st ps ch ga pl
  exact ⟨congrArg nI hlen, xr_mk _ h⟩
theorem i_vc_nextEnd {k : Nat} {u : SX} {v : SY} (I : i_Rel k u v) (hk : k + 4 ≤ 2048) (v1 : Int32) (v2 : Int32) (v3 : Int32) : wpX_nextEnd (fun r => wpY_nextEnd (fun r' v' => r' = r ∧ i_Rel (k + 4) u v') v v1 v2 v3) u v1 v2 v3 := by
  have I' := i_up I
  obtain ⟨l, ms, ac, ae, mt, mc, mf, sd, li, wc, fp, sa, pa, kn, md, op, st, ps, bs, th, sp, ch, ga, pl, be, rfl, rfl, h⟩ := I
  have h' := h
  obtain ⟨r1, r2, r3, r4, r5, r6⟩ := h'
  unfold wpX_nextEnd wpY_nextEnd
  dsimp only
  rcases xr_dom v1 4 (by decide) with hb | ⟨t, ht, rfl⟩
  · refine xw_isTask0 hb ?_
    refine br_t rfl ?_
    refine yw_task0 hb ?_
    exact br_t rfl ⟨rfl, I'⟩
  refine xw_isTask ht ?_
  refine br_f (by decide) ?_
  rcases xr_dom v2 32 (by decide) with hb | ⟨s, hs, rfl⟩
  · refine xw_isState0 hb ?_
    refine br_t rfl ?_
    refine yw_task ht ?_
    refine br_f (by decide) ?_
    refine yw_isState0 hb ?_
    exact br_t rfl ⟨rfl, I'⟩
  refine xw_isState hs ?_
  refine br_f (by decide) ?_
  rcases xr_dom v3 32 (by decide) with hb | ⟨d, hd, rfl⟩
  · refine xw_isState0 hb ?_
    refine br_t rfl ?_
    refine yw_task ht ?_
    refine br_f (by decide) ?_
    refine yw_isState hs ?_
    refine br_f (by decide) ?_
    refine yw_isState0 hb ?_
    exact br_t rfl ⟨rfl, I'⟩
  refine xw_isState hd ?_
  refine br_f (by decide) ?_
  have e8 : (8 : Int32) + nI t = nI (8 + t) := nI_add 8 t
  rw [e8]
  refine xw_rowOf ?_
  obtain ⟨k0, k1⟩ := mp_lo_0 d (mp_ws (yp_P ac ae th mt mc sp) (8 + t) s)
  refine ⟨33 - d, xw_next36 (d := d) _ _ _ _ _ _ _ _ _ _ _ _ _ (by omega) hs (r6 (8 + t) (by omega) (by omega)) (fun e => xr_cnb r4 e (by omega) hs) (fun hz => ?_) (fun i i1 i2 i3 i4 => ?_) (32 - d) d (33 - d) (by omega) (by omega) (Nat.le_refl d) (fun j j1 j2 => by omega)⟩
  · have e : mp_lo d none (mp_ws (yp_P ac ae th mt mc sp) (8 + t) s) = none := by
      cases e : mp_lo d none (mp_ws (yp_P ac ae th mt mc sp) (8 + t) s) with
      | none => rfl
      | some x =>
        obtain ⟨g1, ⟨w, g2, g3⟩, g4⟩ := k1 x e
        have hw := (mp_ws_good (yp_mok r4) (by omega) (by omega) hs g2).1
        have := hz x g1 (by omega)
        have hp : 0 < mp_ct x (mp_ws (yp_P ac ae th mt mc sp) (8 + t) s) := mp_ct_pos.mpr ⟨w.2, by rw [← g3]; exact g2⟩
        unfold mp_cn at this
        omega
    refine yw_task ht ?_
    refine br_f (by decide) ?_
    refine yw_isState hs ?_
    refine br_f (by decide) ?_
    refine yw_isState hd ?_
    refine br_f (by decide) ⟨_, yw_nextEnd34 _ _ _ _ _ _ _ _ _ _ ht hs hd r4 _ _ none _ _ _ _ _ _ _ _ (Nat.lt_succ_self _) (fun l hl => nomatch hl) (yw_OM0 r4 ht s ch) ?_⟩
    intro kn md op st ps ch ga pl
    rw [e]
    exact ⟨rfl, xr_mk _ h⟩
  · have e : mp_lo d none (mp_ws (yp_P ac ae th mt mc sp) (8 + t) s) = some i := by
      obtain ⟨q, hq⟩ := mp_ct_pos.mp i3
      cases e : mp_lo d none (mp_ws (yp_P ac ae th mt mc sp) (8 + t) s) with
      | none =>
        have : i < d := k0 e (i, q) hq
        omega
      | some x =>
        obtain ⟨g1, ⟨w, g2, g3⟩, g4⟩ := k1 x e
        have h1 : x ≤ i := g4 (i, q) hq i1
        have hp : 0 < mp_ct x (mp_ws (yp_P ac ae th mt mc sp) (8 + t) s) := mp_ct_pos.mpr ⟨w.2, by rw [← g3]; exact g2⟩
        have h2 : ¬ x < i := by
          intro hlt
          have := i4 x g1 hlt
          unfold mp_cn at this
          omega
        have : x = i := by omega
        rw [this]
    refine yw_task ht ?_
    refine br_f (by decide) ?_
    refine yw_isState hs ?_
    refine br_f (by decide) ?_
    refine yw_isState hd ?_
    refine br_f (by decide) ⟨_, yw_nextEnd34 _ _ _ _ _ _ _ _ _ _ ht hs hd r4 _ _ none _ _ _ _ _ _ _ _ (Nat.lt_succ_self _) (fun l hl => nomatch hl) (yw_OM0 r4 ht s ch) ?_⟩
    intro kn md op st ps ch ga pl
    rw [e]
    exact ⟨rfl, xr_mk _ h⟩
/-- the best plan as both sides have it -/
theorem xr_best {ac ae th mt mc sp : Nat → Int32} (hok : yp_ok th mt sp) {t s d : Nat} (ht : t < 4) (hs : s < 32) {c : Int32} {f : Int64} (hce : xw_ce c f (mp_cn (yp_P ac ae th mt mc sp) (8 + t) s d) (fun q => (d, q) ∈ mp_ws (yp_P ac ae th mt mc sp) (8 + t) s)) :
    (mp_cn (yp_P ac ae th mt mc sp) (8 + t) s d = 0 ∧ mp_be d none (mp_ws (yp_P ac ae th mt mc sp) (8 + t) s) = none) ∨ (0 < mp_cn (yp_P ac ae th mt mc sp) (8 + t) s d ∧ ∃ b, mp_pg b ∧ f = lN (mp_en b) ∧ mp_be d none (mp_ws (yp_P ac ae th mt mc sp) (8 + t) s) = some b) := by
  obtain ⟨k0, k1⟩ := mp_be_0 d (mp_ws (yp_P ac ae th mt mc sp) (8 + t) s) (fun x hx => xr_pg hok ht hs hx)
  obtain ⟨c1, c2, c3⟩ := hce
  cases e : mp_be d none (mp_ws (yp_P ac ae th mt mc sp) (8 + t) s) with
  | none =>
    left
    refine ⟨?_, rfl⟩
    apply Decidable.byContradiction
    intro hne
    obtain ⟨q, hq⟩ := mp_ct_pos.mp (Nat.pos_of_ne_zero hne)
    exact k0 e q hq
  | some b =>
    right
    obtain ⟨g1, g2⟩ := k1 b e
    have hp : 0 < mp_cn (yp_P ac ae th mt mc sp) (8 + t) s d := mp_ct_pos.mpr ⟨b, g1⟩
    obtain ⟨q, q1, q2, q3⟩ := c3 hp
    have hb := xr_pg hok ht hs g1
    have e1 := q3 b g1
    have e2 := g2 q q1
    have e3 : mp_en q = mp_en b := Nat.le_antisymm e1 e2
    exact ⟨hp, b, hb, by rw [q2, e3], rfl⟩
theorem i_vc_shortest {k : Nat} {u : SX} {v : SY} (I : i_Rel k u v) (hk : k + 4 ≤ 2048) (v1 : Int32) (v2 : Int32) (v3 : Int32) : wpX_shortest (fun r => wpY_shortest (fun r' v' => r' = r ∧ i_Rel (k + 4) u v') v v1 v2 v3) u v1 v2 v3 := by
  have I' := i_up I
  obtain ⟨l, ms, ac, ae, mt, mc, mf, sd, li, wc, fp, sa, pa, kn, md, op, st, ps, bs, th, sp, ch, ga, pl, be, rfl, rfl, h⟩ := I
  have h' := h
  obtain ⟨r1, r2, r3, r4, r5, r6⟩ := h'
  unfold wpX_shortest wpY_shortest
  dsimp only
  rcases xr_dom v1 4 (by decide) with hb | ⟨t, ht, rfl⟩
  · refine xw_isTask0 hb ?_
    refine br_t rfl ?_
    refine yw_task0 hb ?_
    exact br_t rfl ⟨rfl, I'⟩
  refine xw_isTask ht ?_
  refine br_f (by decide) ?_
  rcases xr_dom v2 32 (by decide) with hb | ⟨s, hs, rfl⟩
  · refine xw_isState0 hb ?_
    refine br_t rfl ?_
    refine yw_task ht ?_
    refine br_f (by decide) ?_
    refine yw_isState0 hb ?_
    exact br_t rfl ⟨rfl, I'⟩
  refine xw_isState hs ?_
  refine br_f (by decide) ?_
  rcases xr_dom v3 32 (by decide) with hb | ⟨d, hd, rfl⟩
  · refine xw_isState0 hb ?_
    refine br_t rfl ?_
    refine yw_task ht ?_
    refine br_f (by decide) ?_
    refine yw_isState hs ?_
    refine br_f (by decide) ?_
    refine yw_isState0 hb ?_
    exact br_t rfl ⟨rfl, I'⟩
  refine xw_isState hd ?_
  refine br_f (by decide) ?_
  have e8 : (8 : Int32) + nI t = nI (8 + t) := nI_add 8 t
  rw [e8]
  refine xw_rowOf ?_
  have hce := r6 (8 + t) (by omega) (by omega) s hs d hd
  have hin : vp_in (nI (((8 + t) * 32 + s) * 32 + d)) 12288 := vp_in_nI (by omega) (by decide)
  have hY : ∀ r : Int32, mp_nS (mp_be d none (mp_ws (yp_P ac ae th mt mc sp) (8 + t) s)) = r → wpY_task (fun r_1 => (((r_1 = 0 → ((-1 : Int32) = r ∧ i_Rel (k + 4) (ms, nI l.length, ac, ae, mt, mc, mf, sd, li, wc, fp, sa, pa) (nI l.length, kn, md, op, st, ps, bs, ac, ae, th, mt, mc, sp, li, ch, ga, pl, be))) ∧ (¬ r_1 = 0 → (wpY_isState (fun r_21 => (((r_21 = 0 → ((-1 : Int32) = r ∧ i_Rel (k + 4) (ms, nI l.length, ac, ae, mt, mc, mf, sd, li, wc, fp, sa, pa) (nI l.length, kn, md, op, st, ps, bs, ac, ae, th, mt, mc, sp, li, ch, ga, pl, be))) ∧ (¬ r_21 = 0 → (wpY_isState (fun r_41 => (((r_41 = 0 → ((-1 : Int32) = r ∧ i_Rel (k + 4) (ms, nI l.length, ac, ae, mt, mc, mf, sd, li, wc, fp, sa, pa) (nI l.length, kn, md, op, st, ps, bs, ac, ae, th, mt, mc, sp, li, ch, ga, pl, be))) ∧ (¬ r_41 = 0 → (wpY_search (fun u => match u with | (w1, w2, w3, w4, w5, w6, w7, w8, w9, w10, w11, w12, w13, w14, w15, w16, w17, w18) => (w7 = r ∧ i_Rel (k + 4) (ms, nI l.length, ac, ae, mt, mc, mf, sd, li, wc, fp, sa, pa) (w1, w2, w3, w4, w5, w6, w7, w8, w9, w10, w11, w12, w13, w14, w15, w16, w17, w18))) (nI l.length, kn, md, op, st, ps, bs, ac, ae, th, mt, mc, sp, li, ch, ga, pl, be) (nI t) (nI s) (nI d)))))) (nI l.length, kn, md, op, st, ps, bs, ac, ae, th, mt, mc, sp, li, ch, ga, pl, be) (nI d)))))) (nI l.length, kn, md, op, st, ps, bs, ac, ae, th, mt, mc, sp, li, ch, ga, pl, be) (nI s)))))) (nI l.length, kn, md, op, st, ps, bs, ac, ae, th, mt, mc, sp, li, ch, ga, pl, be) (nI t) := by
    intro r hr
    refine yw_task ht ?_
    refine br_f (by decide) ?_
    refine yw_isState hs ?_
    refine br_f (by decide) ?_
    refine yw_isState hd ?_
    refine br_f (by decide) ?_
    refine yw_search _ _ _ _ _ _ _ _ _ _ _ _ _ _ _ _ _ _ ht hs hd r4 (fun x hx => (xr_pg r4 ht hs hx).2) ?_
    intro kn md op st ps ch ga pl be _
    exact ⟨hr, xr_mk _ h⟩
  rw [nI_add, nI_clamp (by omega : ((8 + t) * 32 + s) * 32 + d < 2 ^ 31), hce.1]
  refine ⟨hin, ?_⟩
  rcases xr_best r4 ht hs hce with ⟨z, hbe⟩ | ⟨z, b, hb, hf, hbe⟩
  · rw [z]
    refine br_t rfl ?_
    exact hY _ (by rw [hbe]; rfl)
  · refine br_f (nI_ne0 z (xr_cnb r4 d (by omega) hs)) ⟨hin, ?_⟩
    rw [hf]
    unfold wpX_lengthOf
    rw [xw_len hb]
    exact hY _ (by rw [hbe]; rfl)
