theorem i_up {k : Nat} {u : SX} {v : SY} (h : i_Rel k u v) : i_Rel (k + 4) u v := h
theorem xr_none {P : mp_PB} (ok : mp_ok P) {t s : Nat} (ht : t < 4) (hs : s < 32) (h : ∀ m, m < 8 → ¬ mp_app P t m s = true) : mp_ws P (8 + t) s = [] := by
  apply List.eq_nil_iff_forall_not_mem.mpr
  rintro ⟨e, r⟩ hx
  rw [mp_ws_t ok ht hs] at hx
  obtain ⟨m, hm, ha, _⟩ := hx
  exact h m hm ha
theorem i_vc0 : wpX_init (fun u => wpY_init (fun v => i_Rel 0 u v)) := by
  have hok : yp_ok (fun _ => 0) (fun _ => 0) (fun _ => 0) := fun m _ => ⟨Or.inl rfl, fun z => absurd rfl z⟩
  have ok := yp_mok (co := fun _ => 0) (ef := fun _ => 0) (de := fun _ => 0) hok
  refine ⟨33, xw_no2 (P := yp_P (fun _ => 0) (fun _ => 0) (fun _ => 0) (fun _ => 0) (fun _ => 0) (fun _ => 0)) _ _ _ _ _ _ _ _ _ _ _ ?_ 32 0 33 _ _ (by omega) (by omega) (fun i hi => by omega) (fun j _ => rfl)⟩
  intro wc fp hA hz
  refine ⟨7, xw_init110 _ _ _ _ _ _ _ _ _ _ _ (th := fun _ => 0) (sp := fun _ => 0) ?_ 6 0 7 wc fp (by omega) (by omega) (fun v hv => ?_) (fun j hj => hz j (by omega))⟩
  · intro wc fp hA hz
    refine xr_mk 0 (l := []) ⟨Nat.zero_le _, trivial, fun a h => (nomatch h), hok, ⟨?_, fun m _ h => absurd rfl h⟩, ?_⟩
    · intro i hi
      rw [b_0, decide_eq_false (p := ¬ (0 : Int32) = 0) (fun h => h rfl), Bool.and_false]
    · intro v hv h7
      by_cases w : v ≤ 6
      · exact hA v w
      · obtain ⟨t, ht, rfl⟩ : ∃ t, t < 4 ∧ v = 8 + t := ⟨v - 8, by omega, by omega⟩
        intro s hs e he
        have hn := xr_none ok ht hs (fun m hm h => (yp_app.mp h).1 rfl)
        unfold mp_cn
        rw [hn, hz _ (by omega)]
        exact ⟨rfl, fun _ q hq => (nomatch hq), fun z => absurd z (Nat.lt_irrefl 0)⟩
  · have : v = 0 := by omega
    subst this
    exact hA
theorem i_vc_write {k : Nat} {u : SX} {v : SY} (I : i_Rel k u v) (hk : k + 4 ≤ 2048) (v1 : Int32) : wpX_write (fun r u' => wpY_write (fun r' v' => r' = r ∧ i_Rel (k + 4) u' v') v v1) u v1 := by
  obtain ⟨l, ms, ac, ae, mt, mc, mf, sd, li, wc, fp, sa, pa, kn, md, op, st, ps, bs, th, sp, ch, ga, pl, be, rfl, rfl, h⟩ := I
  obtain ⟨r1, r2, r3, r4, r5, r6⟩ := h
  unfold wpX_write
  dsimp only
  rcases xr_dom v1 6 (by decide) with hb | ⟨a, ha, rfl⟩
  · refine xw_isAction0 hb ?_
    refine br_t rfl ?_
    rcases hb with h0 | h6
    · exact br_t h0 ⟨rfl, xr_mk _ ⟨r1, r2, r3, r4, r5, r6⟩⟩
    · exact br_f (xr_pos h6 (by decide)) (br_f (xr_nle (by decide) h6) ⟨rfl, xr_mk _ ⟨r1, r2, r3, r4, r5, r6⟩⟩)
  · refine xw_isAction ha ?_
    refine br_f (by decide) ?_
    by_cases z : l.length < 8
    · have hlt : nI l.length < 8 := nI_lt (b := 8) z (by decide)
      have hin : vp_in (nI l.length) 8 := vp_in_nI z (by decide)
      refine br_t hlt ⟨hin, ?_⟩
      rw [nI_clamp (by omega : l.length < 2 ^ 31)]
      refine nm_e (nm_r (nI_1 _) ?_)
      refine br_f (nI_pos (by omega)) (br_t (nI_le (b := 5) (by omega) (by decide)) (br_t hlt ⟨hin, ?_⟩))
      rw [nI_clamp (by omega : l.length < 2 ^ 31)]
      refine nm_e (nm_r (nI_1 _) ?_)
      have e : (l ++ [a]).length = l.length + 1 := by simp
      rw [← e]
      refine ⟨rfl, xr_mk _ ⟨by omega, yw_CH_app.mpr ⟨yw_CH_cong (fun i _ h2 => pk_un (by omega)) r2, ?_⟩, ?_, r4, r5, r6⟩⟩
      · rw [Nat.zero_add]
        exact pk_us
      · intro b hb
        rcases List.mem_append.mp hb with hb | hb
        · exact r3 b hb
        · rw [List.mem_singleton] at hb
          omega
    · have hlt : ¬ nI l.length < 8 := nI_nlt (b := 8) (by omega) (by omega)
      refine br_f hlt ?_
      exact br_f (nI_pos (by omega)) (br_t (nI_le (b := 5) (by omega) (by decide)) (br_f hlt ⟨rfl, xr_mk _ ⟨r1, r2, r3, r4, r5, r6⟩⟩))
theorem i_vc_rub {k : Nat} {u : SX} {v : SY} (I : i_Rel k u v) (hk : k + 4 ≤ 2048) : wpX_rub (fun r u' => wpY_rub (fun r' v' => r' = r ∧ i_Rel (k + 4) u' v') v) u := by
  obtain ⟨l, ms, ac, ae, mt, mc, mf, sd, li, wc, fp, sa, pa, kn, md, op, st, ps, bs, th, sp, ch, ga, pl, be, rfl, rfl, h⟩ := I
  obtain ⟨r1, r2, r3, r4, r5, r6⟩ := h
  rcases List.eq_nil_or_concat l with e | ⟨l', a, e⟩
  · subst e
    refine br_f (by decide) ?_
    exact br_t rfl ⟨rfl, xr_mk _ (l := []) ⟨r1, r2, r3, r4, r5, r6⟩⟩
  · rw [List.concat_eq_append] at e
    subst e
    have el : (l' ++ [a]).length = l'.length + 1 := by simp
    rw [el] at r1 ⊢
    have hin : vp_in (nI l'.length) 8 := vp_in_nI (by omega) (by decide)
    refine br_t (nI_lt (a := 0) (by omega) (by omega)) (nm_r (nI_pred _) ⟨hin, ?_⟩)
    refine br_f (nI_ne0 (by omega) (by omega)) (nm_r (nI_pred _) ⟨hin, ?_⟩)
    exact ⟨rfl, xr_mk _ ⟨by omega, (yw_CH_app.mp r2).1, fun b hb => r3 b (List.mem_append.mpr (Or.inl hb)), r4, r5, r6⟩⟩
theorem i_vc_methods {k : Nat} {u : SX} {v : SY} (I : i_Rel k u v) (hk : k + 4 ≤ 2048) : wpX_methods (fun r => wpY_methods (fun r' => r' = r ∧ i_Rel (k + 4) u v) v) u := by
  have I' := i_up I
  obtain ⟨l, ms, ac, ae, mt, mc, mf, sd, li, wc, fp, sa, pa, kn, md, op, st, ps, bs, th, sp, ch, ga, pl, be, rfl, rfl, h⟩ := I
  exact ⟨9, yw_methods4 _ _ _ _ _ _ _ _ _ _ _ _ _ _ _ _ _ _ 8 0 9 0 (by omega) (by omega) ⟨xw_MS_dz h.2.2.2.2.1.1, I'⟩⟩
theorem i_vc_action {k : Nat} {u : SX} {v : SY} (I : i_Rel k u v) (hk : k + 4 ≤ 2048) (v1 : Int32) (v2 : Int32) (v3 : Int32) : wpX_action (fun r u' => wpY_action (fun r' v' => r' = r ∧ i_Rel (k + 4) u' v') v v1 v2 v3) u v1 v2 v3 := by
  have I' := i_up I
  obtain ⟨l, ms, ac, ae, mt, mc, mf, sd, li, wc, fp, sa, pa, kn, md, op, st, ps, bs, th, sp, ch, ga, pl, be, rfl, rfl, h⟩ := I
  obtain ⟨r1, r2, r3, r4, r5, r6⟩ := h
  unfold wpX_action
  dsimp only
  rcases xr_dom v1 6 (by decide) with hb | ⟨a, ha, rfl⟩
  · refine xw_isAction0 hb ?_
    refine br_t rfl ?_
    rcases hb with h0 | h6
    · exact br_t h0 ⟨rfl, I'⟩
    · exact br_f (xr_pos h6 (by decide)) (br_t (xr_lt_le (by decide) h6) ⟨rfl, I'⟩)
  have y1 : ¬ nI a < 0 := nI_pos (by omega)
  have y2 : ¬ (5 : Int32) < nI a := nI_nlt (a := 5) (by omega) (by decide)
  refine xw_isAction ha ?_
  refine br_f (by decide) ?_
  rcases xr_dom v2 1024 (by decide) with hb | ⟨c, hc, rfl⟩
  · refine xw_pair0 hb ?_
    refine br_t rfl ?_
    refine br_f y1 (br_f y2 ?_)
    refine yw_pair0 hb ?_
    exact br_t rfl ⟨rfl, I'⟩
  refine xw_pair hc ?_
  refine br_f (by decide) ?_
  rcases xr_dom v3 1024 (by decide) with hb | ⟨d, hd, rfl⟩
  · refine xw_pair0 hb ?_
    refine br_t rfl ?_
    refine br_f y1 (br_f y2 ?_)
    refine yw_pair hc ?_
    refine br_f (by decide) ?_
    refine yw_pair0 hb ?_
    exact br_t rfl ⟨rfl, I'⟩
  refine xw_pair hd ?_
  have hin : vp_in (nI a) 6 := vp_in_nI ha (by decide)
  have hcl : (nI a).toNatClampNeg = a := nI_clamp (by omega)
  refine br_f (by decide) ⟨hin, ?_⟩
  rw [hcl]
  refine nm_e ⟨hin, nm_e ?_⟩
  refine xw_fillA _ _ _ _ _ _ _ _ _ _ _ _ _ (th := th) (sp := sp) ha ?_
  intro wc' fp' hA hfr
  refine xw_fillTask _ _ _ _ _ _ _ _ _ _ _ _ _ r4 r5 ?_ ?_
  · intro v hv
    by_cases z : v = 1 + a
    · subst z
      exact hA
    · refine xw_tv_congr (P := yp_P ac ae th mt mc sp) ?_ (xw_ws6 hv (fun b hb => ⟨pk_un (by omega), pk_un (by omega)⟩))
      intro s hs e he
      have f := hfr ((v * 32 + s) * 32 + e) (by omega)
      dsimp only
      rw [f.1, f.2]
      exact r6 v (by omega) (by omega) s hs e he
  · intro wc2 fp2 hA2
    refine br_f y1 (br_f y2 ?_)
    refine yw_pair hc ?_
    refine br_f (by decide) ?_
    refine yw_pair hd ?_
    refine br_f (by decide) ⟨hin, ?_⟩
    rw [hcl]
    exact nm_e ⟨hin, nm_e ⟨rfl, xr_mk _ ⟨r1, r2, r3, r4, r5, hA2⟩⟩⟩
theorem i_vc_drop {k : Nat} {u : SX} {v : SY} (I : i_Rel k u v) (hk : k + 4 ≤ 2048) (v1 : Int32) : wpX_drop (fun r u' => wpY_drop (fun r' v' => r' = r ∧ i_Rel (k + 4) u' v') v v1) u v1 := by
  have I' := i_up I
  obtain ⟨l, ms, ac, ae, mt, mc, mf, sd, li, wc, fp, sa, pa, kn, md, op, st, ps, bs, th, sp, ch, ga, pl, be, rfl, rfl, h⟩ := I
  obtain ⟨r1, r2, r3, r4, r5, r6⟩ := h
  unfold wpX_drop
  dsimp only
  rcases xr_dom v1 8 (by decide) with hb | ⟨m, hm, rfl⟩
  · refine xw_has0 _ _ _ _ _ _ _ _ _ _ _ _ _ hb ?_
    refine br_t rfl ?_
    rcases hb with h0 | h6
    · exact br_t h0 ⟨rfl, I'⟩
    · exact br_f (xr_pos h6 (by decide)) (br_t (xr_lt_le (by decide) h6) ⟨rfl, I'⟩)
  have y1 : ¬ nI m < 0 := nI_pos (by omega)
  have y2 : ¬ (7 : Int32) < nI m := nI_nlt (a := 7) (by omega) (by decide)
  have hin : vp_in (nI m) 8 := vp_in_nI hm (by decide)
  have hcl : (nI m).toNatClampNeg = m := nI_clamp (by omega)
  refine xw_has _ _ _ _ _ _ _ _ _ _ _ _ _ r5.1 hm ?_
  by_cases z : th m = 0
  · rw [if_pos z]
    refine br_t rfl ?_
    refine br_f y1 (br_f y2 ⟨hin, ?_⟩)
    rw [hcl]
    exact br_t z ⟨rfl, I'⟩
  rw [if_neg z]
  refine br_f (by decide) (nm_e ?_)
  have hok' : yp_ok (upd th m 0) mt sp := yp_ok_upd0 r4
  have hM' : xw_M (ms &&& (((1 : Int32) <<< (nI m &&& 31)) ^^^ (-1))) mf sd (upd th m 0) sp := by
    refine ⟨xw_MS_clr hm r5.1, fun i hi hn => ?_⟩
    by_cases e : i = m
    · subst e
      rw [pk_us] at hn
      exact absurd rfl hn
    · rw [pk_un e] at hn
      exact r5.2 i hi hn
  refine xw_fillTask _ _ _ _ _ _ _ _ _ _ _ _ _ hok' hM' (fun v hv => xw_tv_congr (r6 v (by omega) (by omega)) (xw_ws6 hv (fun b hb => ⟨rfl, rfl⟩))) ?_
  intro wc2 fp2 hA2
  refine br_f y1 (br_f y2 ⟨hin, ?_⟩)
  rw [hcl]
  refine br_f z ⟨hin, ?_⟩
  rw [yw_n0]
  exact nm_e ⟨rfl, xr_mk _ ⟨r1, r2, r3, hok', hM', hA2⟩⟩
/-- a free number -/
theorem xr_free (th : Nat → Int32) : ∀ k, (∃ m, m < k ∧ th m = 0 ∧ ∀ j, j < m → ¬ th j = 0) ∨ ∀ m, m < k → ¬ th m = 0
  | 0 => Or.inr (fun m h => by omega)
  | k + 1 => by
    rcases xr_free th k with ⟨m, h1, h2, h3⟩ | h
    · exact Or.inl ⟨m, by omega, h2, h3⟩
    · by_cases z : th k = 0
      · exact Or.inl ⟨k, by omega, z, h⟩
      · refine Or.inr (fun m hm => ?_)
        by_cases e : m = k
        · subst e
          exact z
        · exact h m (by omega)
theorem xw_meth61 {post : Int32 → SX → Prop} (ms ll : Int32) (ac ae mt mc mf sd li wc sa pa : Nat → Int32) (fp : Nat → Int64) {x1 x2 x4 x5 : Int32} {th : Nat → Int32} {m : Nat} (hms : xw_MS ms th) (hm : m < 8) (hz : th m = 0)
    (H : wpX_fillTaskSteps (fun u => match u with | (ms, ll, ac, ae, mt, mc, mf, sd, li, wc, fp, sa, pa) => post (nI m) (ms, ll, ac, ae, mt, mc, mf, sd, li, wc, fp, sa, pa)) (ms ||| ((1 : Int32) <<< (nI m &&& 31)), ll, ac, ae, upd mt m x1, upd mc m x2, upd mf m x4, upd sd m x5, li, wc, fp, sa, pa)) :
    ∀ (k i F : Nat), i + k = m → k < F → (∀ j, i ≤ j → j < m → ¬ th j = 0) → wX_method_61 post x1 x2 x4 x5 ms ll ac ae mt mc mf sd li wc fp sa pa F (nI i) := by
  intro k
  induction k with
  | zero =>
    intro i F hi hF hj
    obtain ⟨F, rfl⟩ : ∃ n, F = n + 1 := ⟨F - 1, by omega⟩
    obtain rfl : i = m := by omega
    have hin : vp_in (nI i) 8 := vp_in_nI hm (by decide)
    have hcl : (nI i).toNatClampNeg = i := nI_clamp (by omega)
    refine br_f (nI_ge (b := 8) hm (by decide)) ?_
    refine xw_has _ _ _ _ _ _ _ _ _ _ _ _ _ hms hm ?_
    rw [if_pos hz]
    refine br_t rfl (nm_e ⟨hin, ?_⟩)
    rw [hcl]
    exact nm_e ⟨hin, nm_e ⟨hin, nm_e ⟨hin, nm_e H⟩⟩⟩
  | succ k ih =>
    intro i F hi hF hj
    obtain ⟨F, rfl⟩ : ∃ n, F = n + 1 := ⟨F - 1, by omega⟩
    refine br_f (nI_ge (b := 8) (by omega) (by decide)) ?_
    refine xw_has _ _ _ _ _ _ _ _ _ _ _ _ _ hms (by omega) ?_
    rw [if_neg (hj i (Nat.le_refl i) (by omega))]
    exact br_f (by decide) (nm_r (nI_1 _) (ih (i + 1) F (by omega) (by omega) (fun j j1 j2 => hj j (by omega) j2)))
theorem xw_meth61f {post : Int32 → SX → Prop} (ms ll : Int32) (ac ae mt mc mf sd li wc sa pa : Nat → Int32) (fp : Nat → Int64) {x1 x2 x4 x5 : Int32} {th : Nat → Int32} (hms : xw_MS ms th) (hj : ∀ j, j < 8 → ¬ th j = 0) (H : post (-2) (ms, ll, ac, ae, mt, mc, mf, sd, li, wc, fp, sa, pa)) :
    ∀ (k i F : Nat), i + k = 8 → k < F → wX_method_61 post x1 x2 x4 x5 ms ll ac ae mt mc mf sd li wc fp sa pa F (nI i) := by
  intro k
  induction k with
  | zero =>
    intro i F hi hF
    obtain ⟨F, rfl⟩ : ∃ n, F = n + 1 := ⟨F - 1, by omega⟩
    exact br_t (nI_le (a := 8) (by omega) (by omega)) H
  | succ k ih =>
    intro i F hi hF
    obtain ⟨F, rfl⟩ : ∃ n, F = n + 1 := ⟨F - 1, by omega⟩
    refine br_f (nI_ge (b := 8) (by omega) (by decide)) ?_
    refine xw_has _ _ _ _ _ _ _ _ _ _ _ _ _ hms (by omega) ?_
    rw [if_neg (hj i (by omega))]
    exact br_f (by decide) (nm_r (nI_1 _) (ih (i + 1) F (by omega) (by omega)))
theorem yw_meth55 {post : Int32 → SY → Prop} (wr kn md op st ps bs : Int32) (co ef th ta de sp li ch ga pl be : Nat → Int32) {x1 x2 x3 : Int32} {m : Nat} (hm : m < 8) (hz : th m = 0)
    (H : post (nI m) (wr, kn, md, op, st, ps, bs, co, ef, upd th m 1, upd ta m x1, upd de m x2, upd sp m x3, li, ch, ga, pl, be)) :
    ∀ (k i F : Nat), i + k = m → k < F → (∀ j, i ≤ j → j < m → ¬ th j = 0) → wY_method_55 post x1 x2 x3 wr kn md op st ps bs co ef th ta de sp li ch ga pl be F (nI i) := by
  intro k
  induction k with
  | zero =>
    intro i F hi hF hj
    obtain ⟨F, rfl⟩ : ∃ n, F = n + 1 := ⟨F - 1, by omega⟩
    obtain rfl : i = m := by omega
    have hin : vp_in (nI i) 8 := vp_in_nI hm (by decide)
    have hcl : (nI i).toNatClampNeg = i := nI_clamp (by omega)
    refine br_f (nI_ge (b := 8) hm (by decide)) ⟨hin, ?_⟩
    rw [hcl, yw_n1]
    exact br_t hz ⟨hin, nm_e ⟨hin, nm_e ⟨hin, nm_e ⟨hin, nm_e H⟩⟩⟩⟩
  | succ k ih =>
    intro i F hi hF hj
    obtain ⟨F, rfl⟩ : ∃ n, F = n + 1 := ⟨F - 1, by omega⟩
    refine br_f (nI_ge (b := 8) (by omega) (by decide)) ⟨vp_in_nI (by omega) (by decide), ?_⟩
    refine br_f ?_ (nm_r (nI_1 _) (ih (i + 1) F (by omega) (by omega) (fun j j1 j2 => hj j (by omega) j2)))
    rw [nI_clamp (by omega : i < 2 ^ 31)]
    exact hj i (Nat.le_refl i) (by omega)
theorem yw_meth55f {post : Int32 → SY → Prop} (wr kn md op st ps bs : Int32) (co ef th ta de sp li ch ga pl be : Nat → Int32) {x1 x2 x3 : Int32} (hj : ∀ j, j < 8 → ¬ th j = 0) (H : post (-2) (wr, kn, md, op, st, ps, bs, co, ef, th, ta, de, sp, li, ch, ga, pl, be)) :
    ∀ (k i F : Nat), i + k = 8 → k < F → wY_method_55 post x1 x2 x3 wr kn md op st ps bs co ef th ta de sp li ch ga pl be F (nI i) := by
  intro k
  induction k with
  | zero =>
    intro i F hi hF
    obtain ⟨F, rfl⟩ : ∃ n, F = n + 1 := ⟨F - 1, by omega⟩
    exact br_t (nI_le (a := 8) (by omega) (by omega)) H
  | succ k ih =>
    intro i F hi hF
    obtain ⟨F, rfl⟩ : ∃ n, F = n + 1 := ⟨F - 1, by omega⟩
    refine br_f (nI_ge (b := 8) (by omega) (by decide)) ⟨vp_in_nI (by omega) (by decide), ?_⟩
    refine br_f ?_ (nm_r (nI_1 _) (ih (i + 1) F (by omega) (by omega)))
    rw [nI_clamp (by omega : i < 2 ^ 31)]
    exact hj i (by omega)
theorem i_vc_method {k : Nat} {u : SX} {v : SY} (I : i_Rel k u v) (hk : k + 4 ≤ 2048) (v1 : Int32) (v2 : Int32) (v3 : Int32) : wpX_method (fun r u' => wpY_method (fun r' v' => r' = r ∧ i_Rel (k + 4) u' v') v v1 v2 v3) u v1 v2 v3 := by
  have I' := i_up I
  obtain ⟨l, ms, ac, ae, mt, mc, mf, sd, li, wc, fp, sa, pa, kn, md, op, st, ps, bs, th, sp, ch, ga, pl, be, rfl, rfl, h⟩ := I
  obtain ⟨r1, r2, r3, r4, r5, r6⟩ := h
  unfold wpX_method
  dsimp only
  have Y1 : ∀ r : Int32, (v1 < 0 ∨ nI 4 ≤ v1) → r = -1 → wpY_method (fun r' v' => r' = r ∧ i_Rel (k + 4) (ms, nI l.length, ac, ae, mt, mc, mf, sd, li, wc, fp, sa, pa) v') (nI l.length, kn, md, op, st, ps, bs, ac, ae, th, mt, mc, sp, li, ch, ga, pl, be) v1 v2 v3 := by
    intro r hb hr
    unfold wpY_method
    dsimp only
    refine yw_task0 hb ?_
    exact br_t rfl ⟨hr.symm, I'⟩
  rcases xr_dom v1 4 (by decide) with hb | ⟨t, ht, rfl⟩
  · refine xw_isTask0 hb ?_
    exact br_t rfl (Y1 _ hb rfl)
  refine xw_isTask ht ?_
  refine br_f (by decide) ?_
  rcases xr_dom v2 1024 (by decide) with hb | ⟨c, hc, rfl⟩
  · refine xw_pair0 hb ?_
    refine br_t rfl ?_
    unfold wpY_method
    dsimp only
    refine yw_task ht ?_
    refine br_f (by decide) ?_
    refine yw_pair0 hb ?_
    exact br_t rfl ⟨rfl, I'⟩
  refine xw_pair hc ?_
  refine br_f (by decide) ?_
  have Y2 : ∀ (post : Int32 → SY → Prop), (((v3 < 0 → post (-1) (nI l.length, kn, md, op, st, ps, bs, ac, ae, th, mt, mc, sp, li, ch, ga, pl, be)) ∧ (¬ v3 < 0 → ((((255 : Int32) < v3 → post (-1) (nI l.length, kn, md, op, st, ps, bs, ac, ae, th, mt, mc, sp, li, ch, ga, pl, be)) ∧ (¬ (255 : Int32) < v3 → wpY_step (fun r_43 => (((r_43 = 0 → post (-1) (nI l.length, kn, md, op, st, ps, bs, ac, ae, th, mt, mc, sp, li, ch, ga, pl, be)) ∧ (¬ r_43 = 0 → wpY_step (fun r_63 => (((r_63 = 0 → post (-1) (nI l.length, kn, md, op, st, ps, bs, ac, ae, th, mt, mc, sp, li, ch, ga, pl, be)) ∧ (¬ r_63 = 0 → ∃ n55 : Nat, wY_method_55 post (nI t) (nI c) v3 (nI l.length) kn md op st ps bs ac ae th mt mc sp li ch ga pl be n55 0)))) (nI l.length, kn, md, op, st, ps, bs, ac, ae, th, mt, mc, sp, li, ch, ga, pl, be) (nI t) (v3 >>> ((4 : Int32) &&& 31)))))) (nI l.length, kn, md, op, st, ps, bs, ac, ae, th, mt, mc, sp, li, ch, ga, pl, be) (nI t) (v3 &&& 15))))))) → wpY_method post (nI l.length, kn, md, op, st, ps, bs, ac, ae, th, mt, mc, sp, li, ch, ga, pl, be) (nI t) (nI c) v3 := by
    intro post hh
    unfold wpY_method
    dsimp only
    refine yw_task ht ?_
    refine br_f (by decide) ?_
    refine yw_pair hc ?_
    exact br_f (by decide) hh
  rcases xr_dom v3 256 (by decide) with hb | ⟨f, hf, rfl⟩
  · rcases hb with h0 | h6
    · exact br_t h0 (Y2 _ (br_t h0 ⟨rfl, I'⟩))
    · exact br_f (xr_pos h6 (by decide)) (br_f (xr_nlt h6) (Y2 _ (br_f (xr_pos h6 (by decide)) (br_t (xr_lt_le (by decide) h6) ⟨rfl, I'⟩))))
  have e15 : nI f &&& 15 = nI (f % 16) := pk_andN (by omega) 4 (by decide)
  have e4 : nI f >>> ((4 : Int32) &&& 31) = nI (f / 16) := pk_shrN (by omega) _ 4 (by decide)
  have y1 : ¬ nI f < 0 := nI_pos (by omega)
  have y2 : ¬ (255 : Int32) < nI f := nI_nlt (a := 255) (by omega) (by decide)
  refine br_f y1 (br_t (nI_lt (b := 256) hf (by decide)) (nm_r e15 (nm_r e4 ?_)))
  refine xw_isStepOf ht (by omega) (fun s1 => ?_) (fun s1 => ?_)
  · refine br_f (by decide) ?_
    refine xw_isStepOf ht (by omega) (fun s2 => ?_) (fun s2 => ?_)
    · refine br_f (by decide) ?_
      rcases xr_free th 8 with ⟨m, hm, hz, hbef⟩ | hfull
      · have hok' : yp_ok (upd th m 1) (upd mt m (nI t)) (upd sp m (nI f)) := by
          intro i hi
          by_cases e : i = m
          · subst e
            rw [pk_us, pk_us, pk_us]
            exact ⟨Or.inr rfl, fun _ => ⟨t, f, ht, rfl, hf, rfl, s1, s2⟩⟩
          · rw [pk_un e, pk_un e, pk_un e]
            exact r4 i hi
        have hM' : xw_M (ms ||| ((1 : Int32) <<< (nI m &&& 31))) (upd mf m (nI (f % 16))) (upd sd m (nI (f / 16))) (upd th m 1) (upd sp m (nI f)) := by
          refine ⟨xw_MS_set hm r5.1, fun i hi hn => ?_⟩
          by_cases e : i = m
          · subst e
            rw [pk_us, pk_us, pk_us]
            exact ⟨e15.symm, e4.symm⟩
          · rw [pk_un e] at hn
            rw [pk_un e, pk_un e, pk_un e]
            exact r5.2 i hi hn
        refine ⟨m + 1, xw_meth61 _ _ _ _ _ _ _ _ _ _ _ _ _ r5.1 hm hz ?_ m 0 (m + 1) (by omega) (by omega) (fun j _ h2 => hbef j h2)⟩
        refine xw_fillTask _ _ _ _ _ _ _ _ _ _ _ _ _ hok' hM' (fun v hv => xw_tv_congr (r6 v (by omega) (by omega)) (xw_ws6 hv (fun b hb => ⟨rfl, rfl⟩))) ?_
        intro wc2 fp2 hA2
        refine Y2 _ (br_f y1 (br_f y2 ?_))
        rw [e15, e4]
        refine yw_step ht (by omega) (fun _ => br_f (by decide) ?_) (fun n1 => absurd s1 n1)
        refine yw_step ht (by omega) (fun _ => br_f (by decide) ?_) (fun n1 => absurd s2 n1)
        exact ⟨m + 1, yw_meth55 _ _ _ _ _ _ _ _ _ _ _ _ _ _ _ _ _ _ hm hz ⟨rfl, xr_mk _ ⟨r1, r2, r3, hok', hM', hA2⟩⟩ m 0 (m + 1) (by omega) (by omega) (fun j _ h2 => hbef j h2)⟩
      · refine ⟨9, xw_meth61f _ _ _ _ _ _ _ _ _ _ _ _ _ r5.1 hfull ?_ 8 0 9 (by omega) (by omega)⟩
        refine Y2 _ (br_f y1 (br_f y2 ?_))
        rw [e15, e4]
        refine yw_step ht (by omega) (fun _ => br_f (by decide) ?_) (fun n1 => absurd s1 n1)
        refine yw_step ht (by omega) (fun _ => br_f (by decide) ?_) (fun n1 => absurd s2 n1)
        exact ⟨9, yw_meth55f _ _ _ _ _ _ _ _ _ _ _ _ _ _ _ _ _ _ hfull ⟨rfl, I'⟩ 8 0 9 (by omega) (by omega)⟩
    · refine br_t rfl ?_
      refine Y2 _ (br_f y1 (br_f y2 ?_))
      rw [e15, e4]
      refine yw_step ht (by omega) (fun _ => br_f (by decide) ?_) (fun n1 => absurd s1 n1)
      refine yw_step ht (by omega) (fun n1 => absurd n1 s2) (fun _ => br_t rfl ⟨rfl, I'⟩)
  · refine br_t rfl ?_
    refine Y2 _ (br_f y1 (br_f y2 ?_))
    rw [e15, e4]
    exact yw_step ht (by omega) (fun n1 => absurd n1 s1) (fun _ => br_t rfl ⟨rfl, I'⟩)
