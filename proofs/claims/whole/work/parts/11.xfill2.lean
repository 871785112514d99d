theorem xw_8 {post : SX → Prop} {J2 : Int32 → Int32 → Int32 → (Nat → Int32) → (Nat → Int32) → (Nat → Int32) → (Nat → Int32) → (Nat → Int32) → (Nat → Int32) → (Nat → Int32) → (Nat → Int32) → (Nat → Int64) → (Nat → Int32) → (Nat → Int32) → Prop} (ms ll : Int32) (ac ae mt mc mf sd li sa pa : Nat → Int32) {th sp : Nat → Int32} (hok : yp_ok th mt sp) (hM : xw_M ms mf sd th sp) {t : Nat} (ht : t < 4)
    (H : ∀ (wc : Nat → Int32) (fp : Nat → Int64), (∀ v, mp_sv t v → xw_tv (yp_P ac ae th mt mc sp) v wc fp) → xw_tv (yp_P ac ae th mt mc sp) (8 + t) wc fp → J2 (nI t + (-1)) ms ll ac ae mt mc mf sd li wc fp sa pa) :
    ∀ (k s F : Nat) (wc : Nat → Int32) (fp : Nat → Int64), s + k = 32 → k < F → (∀ v, mp_sv t v → xw_tv (yp_P ac ae th mt mc sp) v wc fp) →
    (∀ i, i < s → ∀ e, e < 32 → xw_ce (wc (((8 + t) * 32 + i) * 32 + e)) (fp (((8 + t) * 32 + i) * 32 + e)) (mp_cn (yp_P ac ae th mt mc sp) (8 + t) i e) (fun q => (e, q) ∈ mp_ws (yp_P ac ae th mt mc sp) (8 + t) i)) →
    wX_fillTaskSteps_8 post J2 (nI t) F (nI s) ms ll ac ae mt mc mf sd li wc fp sa pa := by
  have ok := yp_mok (co := ac) (ef := ae) (de := mc) hok
  intro k
  induction k with
  | zero =>
    intro s F wc fp hs hF hA hce
    obtain ⟨F, rfl⟩ : ∃ n, F = n + 1 := ⟨F - 1, by omega⟩
    obtain rfl : s = 32 := by omega
    exact br_t (nI_le (a := 32) (by omega) (by omega)) (nm_e (H wc fp hA hce))
  | succ k ih =>
    intro s F wc fp hs hF hA hce
    obtain ⟨F, rfl⟩ : ∃ n, F = n + 1 := ⟨F - 1, by omega⟩
    have hs32 : s < 32 := by omega
    refine br_f (nI_ge (b := 32) (by omega) (by decide)) ?_
    have e8 : (8 : Int32) + nI t = nI (8 + t) := nI_add 8 t
    rw [e8]
    refine xw_rowOf ?_
    refine xw_clear _ _ _ _ _ _ _ _ _ _ _ _ _ (by omega) ?_
    intro wc1 fp1 hz hfr
    have hA1 : ∀ v, mp_sv t v → xw_tv (yp_P ac ae th mt mc sp) v wc1 fp1 := by
      intro v hv s' hs' e he
      have a := hA v hv s' hs' e he
      unfold mp_sv at hv
      have f := hfr ((v * 32 + s') * 32 + e) (by omega)
      rw [f.1, f.2]
      exact a
    refine ⟨9, xw_31 _ _ _ _ _ _ _ _ _ _ _ hok hM ht hs32 hA1 ?_ 8 0 9 wc1 fp1 (by omega) (by omega) (fun j _ => ⟨rfl, rfl⟩) ?_⟩
    · intro wc2 fp2 hfr2 hce2
      refine ih (s + 1) F wc2 fp2 (by omega) (by omega) ?_ ?_
      · intro v hv s' hs' e he
        have a := hA1 v hv s' hs' e he
        unfold mp_sv at hv
        have f := hfr2 ((v * 32 + s') * 32 + e) (by omega)
        rw [f.1, f.2]
        exact a
      · intro i hi e he
        by_cases y : i = s
        · subst y
          refine xw_ce_congr (hce2 e he) (mp_cn_t ok e ht hs32).symm (fun q => ?_)
          rw [mp_ws_t ok ht hs32]
          constructor
          · rintro ⟨m, g1, g2, b, g3, p, r, g4, g5, g6⟩
            exact ⟨m, g1, g2, b, p, r, g3, g4, g5, g6⟩
          · rintro ⟨m, g1, g2, b, p, r, g3, g4, g5, g6⟩
            exact ⟨m, g1, g2, b, g3, p, r, g4, g5, g6⟩
        · have a := hce i (by omega) e he
          have f1 := hfr (((8 + t) * 32 + i) * 32 + e) (by omega)
          have f2 := hfr2 (((8 + t) * 32 + i) * 32 + e) (by omega)
          rw [f2.1, f2.2, f1.1, f1.2]
          exact a
    · intro i hi
      refine ⟨hz i hi, fun _ q hq => ?_, fun z => absurd z (Nat.lt_irrefl 0)⟩
      obtain ⟨j, g1, _⟩ := hq
      omega
theorem xw_2 {post : SX → Prop} (ms ll : Int32) (ac ae mt mc mf sd li sa pa : Nat → Int32) {th sp : Nat → Int32} (hok : yp_ok th mt sp) (hM : xw_M ms mf sd th sp)
    (H : ∀ (wc : Nat → Int32) (fp : Nat → Int64), (∀ v, v ≤ 11 → v ≠ 7 → xw_tv (yp_P ac ae th mt mc sp) v wc fp) → post (ms, ll, ac, ae, mt, mc, mf, sd, li, wc, fp, sa, pa)) :
    ∀ (k F : Nat) (x1 : Int32) (wc : Nat → Int32) (fp : Nat → Int64), k ≤ 4 → k < F → x1 = (if k = 0 then -1 else nI (k - 1)) → (∀ v, (v ≤ 6 ∨ (8 + k ≤ v ∧ v ≤ 11)) → xw_tv (yp_P ac ae th mt mc sp) v wc fp) →
    wX_fillTaskSteps_2 post F x1 ms ll ac ae mt mc mf sd li wc fp sa pa := by
  intro k
  induction k with
  | zero =>
    intro F x1 wc fp hk hF hx hA
    obtain ⟨F, rfl⟩ : ∃ n, F = n + 1 := ⟨F - 1, by omega⟩
    rw [if_pos rfl] at hx
    subst hx
    exact br_t (by decide) (H wc fp (fun v h1 h2 => hA v (by omega)))
  | succ k ih =>
    intro F x1 wc fp hk hF hx hA
    obtain ⟨F, rfl⟩ : ∃ n, F = n + 1 := ⟨F - 1, by omega⟩
    rw [if_neg (by omega), Nat.add_sub_cancel] at hx
    subst hx
    refine br_f (nI_pos (by omega)) ⟨33, xw_8 _ _ _ _ _ _ _ _ _ _ _ hok hM (by omega) ?_ 32 0 33 wc fp (by omega) (by omega) (fun v hv => hA v (by unfold mp_sv at hv; omega)) (fun i hi => by omega)⟩
    intro wc' fp' hA1 hA2
    refine ih F _ wc' fp' (by omega) (by omega) ?_ ?_
    · by_cases z : k = 0
      · subst z
        decide
      · rw [if_neg z]
        obtain ⟨j, rfl⟩ : ∃ j, k = j + 1 := ⟨k - 1, by omega⟩
        exact pk_m1 j
    · intro v hv
      by_cases z : v = 8 + k
      · subst z
        exact hA2
      · exact hA1 v (by unfold mp_sv; omega)
theorem xw_fillTask {post : SX → Prop} (ms ll : Int32) (ac ae mt mc mf sd li wc sa pa : Nat → Int32) (fp : Nat → Int64) {th sp : Nat → Int32} (hok : yp_ok th mt sp) (hM : xw_M ms mf sd th sp) (hA : ∀ v, v ≤ 6 → xw_tv (yp_P ac ae th mt mc sp) v wc fp)
    (H : ∀ (wc : Nat → Int32) (fp : Nat → Int64), (∀ v, v ≤ 11 → v ≠ 7 → xw_tv (yp_P ac ae th mt mc sp) v wc fp) → post (ms, ll, ac, ae, mt, mc, mf, sd, li, wc, fp, sa, pa)) : wpX_fillTaskSteps post (ms, ll, ac, ae, mt, mc, mf, sd, li, wc, fp, sa, pa) :=
  ⟨5, xw_2 _ _ _ _ _ _ _ _ _ _ _ hok hM H 4 5 3 wc fp (by omega) (by omega) rfl (fun v hv => hA v (by omega))⟩
/-- the steps that are actions -/
theorem xw_act_ce {ac ae th mt mc sp : Nat → Int32} {a s e : Nat} (ha : a < 6) {c : Int32} {f : Int64}
    (h1 : yp_hI (ac a) s = true → e = yp_chg (ae a) s → c = 1 ∧ f = lN (mp_en [a])) (h0 : ¬ (yp_hI (ac a) s = true ∧ e = yp_chg (ae a) s) → c = 0) :
    xw_ce c f (mp_cn (yp_P ac ae th mt mc sp) (1 + a) s e) (fun q => (e, q) ∈ mp_ws (yp_P ac ae th mt mc sp) (1 + a) s) := by
  have ew : mp_ws (yp_P ac ae th mt mc sp) (1 + a) s = if yp_hI (ac a) s then [(yp_chg (ae a) s, [a])] else [] := by
    rw [mp_wsa _ s (by omega) (by omega)]
    have : 1 + a - 1 = a := by omega
    rw [this]
    rfl
  unfold mp_cn
  rw [ew]
  by_cases x : yp_hI (ac a) s = true
  · rw [if_pos x]
    by_cases y : e = yp_chg (ae a) s
    · obtain ⟨g1, g2⟩ := h1 x y
      have en : mp_ct e [(yp_chg (ae a) s, [a])] = 1 := by
        show (if yp_chg (ae a) s = e then 1 else 0) + 0 = 1
        rw [if_pos y.symm]
      rw [en]
      refine ⟨g1, fun z => absurd z (by decide), fun _ => ⟨[a], by rw [y]; exact List.mem_singleton.mpr rfl, g2, fun q hq => ?_⟩⟩
      have := List.mem_singleton.mp hq
      injection this with _ h
      rw [h]
      exact Nat.le_refl _
    · have en : mp_ct e [(yp_chg (ae a) s, [a])] = 0 := by
        show (if yp_chg (ae a) s = e then 1 else 0) + 0 = 0
        rw [if_neg (fun h => y h.symm)]
      rw [en]
      refine ⟨h0 (fun h => y h.2), fun _ q hq => ?_, fun z => absurd z (Nat.lt_irrefl 0)⟩
      have := List.mem_singleton.mp hq
      injection this with h _
      exact y h
  · rw [if_neg x]
    exact ⟨h0 (fun h => x h.1), fun _ q hq => (nomatch hq), fun z => absurd z (Nat.lt_irrefl 0)⟩
theorem xw_fillA2 {post : SX → Prop} (ms ll : Int32) (ac ae mt mc mf sd li sa pa : Nat → Int32) {th sp : Nat → Int32} {a : Nat} (ha : a < 6) (wc0 : Nat → Int32) (fp0 : Nat → Int64)
    (H : ∀ (wc : Nat → Int32) (fp : Nat → Int64), xw_tv (yp_P ac ae th mt mc sp) (1 + a) wc fp → (∀ j, (j < (1 + a) * 1024 ∨ (1 + a) * 1024 + 1024 ≤ j) → wc j = wc0 j ∧ fp j = fp0 j) → post (ms, ll, ac, ae, mt, mc, mf, sd, li, wc, fp, sa, pa)) :
    ∀ (k s F : Nat) (wc : Nat → Int32) (fp : Nat → Int64), s + k = 32 → k < F →
    (∀ i, i < s → ∀ e, e < 32 → xw_ce (wc (((1 + a) * 32 + i) * 32 + e)) (fp (((1 + a) * 32 + i) * 32 + e)) (mp_cn (yp_P ac ae th mt mc sp) (1 + a) i e) (fun q => (e, q) ∈ mp_ws (yp_P ac ae th mt mc sp) (1 + a) i)) →
    (∀ j, (j < (1 + a) * 1024 ∨ (1 + a) * 1024 + 1024 ≤ j) → wc j = wc0 j ∧ fp j = fp0 j) →
    wX_fillActionStep_2 post (nI a) F (nI s) ms ll ac ae mt mc mf sd li wc fp sa pa := by
  intro k
  induction k with
  | zero =>
    intro s F wc fp hs hF hce hfr
    obtain ⟨F, rfl⟩ : ∃ n, F = n + 1 := ⟨F - 1, by omega⟩
    obtain rfl : s = 32 := by omega
    exact br_t (nI_le (a := 32) (by omega) (by omega)) (H wc fp hce hfr)
  | succ k ih =>
    intro s F wc fp hs hF hce hfr
    obtain ⟨F, rfl⟩ : ∃ n, F = n + 1 := ⟨F - 1, by omega⟩
    have hs32 : s < 32 := by omega
    refine br_f (nI_ge (b := 32) (by omega) (by decide)) ?_
    have e1 : (1 : Int32) + nI a = nI (1 + a) := nI_add 1 a
    rw [e1]
    refine xw_rowOf ?_
    refine xw_clear _ _ _ _ _ _ _ _ _ _ _ _ _ (by omega) ?_
    intro wc1 fp1 hz hfr1
    refine xw_outcome _ _ _ _ _ _ _ _ _ _ _ _ _ ha hs32 ?_
    by_cases x : yp_hI (ac a) s = true
    · rw [if_pos x]
      have hc32 := (yp_ex_eq (ae a) hs32).2
      have hin : vp_in (nI (((1 + a) * 32 + s) * 32 + yp_chg (ae a) s)) 12288 := vp_in_nI (by omega) (by decide)
      have hn1 : ¬ nI (yp_chg (ae a) s) = -1 := by
        intro h
        have h2 := nI_pos (n := yp_chg (ae a) s) (by omega)
        rw [h] at h2
        exact h2 (by decide)
      refine br_f hn1 ?_
      rw [nI_add, nI_clamp (by omega : ((1 + a) * 32 + s) * 32 + yp_chg (ae a) s < 2 ^ 31), nI_l (by omega : a < 2 ^ 31)]
      have een : (281474976710656 : Int64) ||| lN a = lN (mp_en [a]) := by
        have h := g_or (k := 48) (p := 2 ^ 48) (a := a) (b := 1) rfl (by omega) (by omega)
        have e2 : mp_en [a] = 1 * 2 ^ 48 + a := by
          show 1 * 2 ^ 48 + (a * 8 ^ 0 + 0) = _
          omega
        rw [e2]
        exact h
      rw [een]
      refine ⟨hin, nm_e ⟨hin, nm_e (nm_r (nI_1 _) (ih (s + 1) F _ _ (by omega) (by omega) ?_ ?_))⟩⟩
      · intro i hi e he
        by_cases y : i = s
        · subst y
          refine xw_act_ce ha (fun _ h => ?_) (fun h => ?_)
          · subst h
            exact ⟨pk_us, pk_uLs⟩
          · have hne : e ≠ yp_chg (ae a) i := fun h' => h ⟨x, h'⟩
            exact (pk_un (by omega)).trans (hz e he)
        · have f := hfr1 (((1 + a) * 32 + i) * 32 + e) (by omega)
          rw [pk_un (by omega), pk_uLn (by omega), f.1, f.2]
          exact hce i (by omega) e he
      · intro j hj
        have f := hfr1 j (by omega)
        have g := hfr j hj
        exact ⟨(pk_un (by omega)).trans (f.1.trans g.1), (pk_uLn (by omega)).trans (f.2.trans g.2)⟩
    · rw [if_neg x]
      refine br_t rfl (nm_r (nI_1 _) (ih (s + 1) F wc1 fp1 (by omega) (by omega) ?_ ?_))
      · intro i hi e he
        by_cases y : i = s
        · subst y
          exact xw_act_ce ha (fun h _ => absurd h x) (fun _ => hz e he)
        · have f := hfr1 (((1 + a) * 32 + i) * 32 + e) (by omega)
          rw [f.1, f.2]
          exact hce i (by omega) e he
      · intro j hj
        have f := hfr1 j (by omega)
        have g := hfr j hj
        exact ⟨f.1.trans g.1, f.2.trans g.2⟩
theorem xw_fillA {post : SX → Prop} (ms ll : Int32) (ac ae mt mc mf sd li wc sa pa : Nat → Int32) (fp : Nat → Int64) {th sp : Nat → Int32} {a : Nat} (ha : a < 6)
    (H : ∀ (wc' : Nat → Int32) (fp' : Nat → Int64), xw_tv (yp_P ac ae th mt mc sp) (1 + a) wc' fp' → (∀ j, (j < (1 + a) * 1024 ∨ (1 + a) * 1024 + 1024 ≤ j) → wc' j = wc j ∧ fp' j = fp j) → post (ms, ll, ac, ae, mt, mc, mf, sd, li, wc', fp', sa, pa)) :
    wpX_fillActionStep post (ms, ll, ac, ae, mt, mc, mf, sd, li, wc, fp, sa, pa) (nI a) :=
  ⟨33, xw_fillA2 _ _ _ _ _ _ _ _ _ _ _ (th := th) (sp := sp) ha wc fp H 32 0 33 wc fp (by omega) (by omega) (fun i hi => by omega) (fun j _ => ⟨rfl, rfl⟩)⟩
/-- no step -/
theorem xw_no2 {post : SX → Prop} (ms ll : Int32) (ac ae mt mc mf sd li sa pa : Nat → Int32) {P : mp_PB}
    (H : ∀ (wc : Nat → Int32) (fp : Nat → Int64), xw_tv P 0 wc fp → (∀ j, 1024 ≤ j → wc j = 0) → post (ms, ll, ac, ae, mt, mc, mf, sd, li, wc, fp, sa, pa)) :
    ∀ (k s F : Nat) (wc : Nat → Int32) (fp : Nat → Int64), s + k = 32 → k < F →
    (∀ i, i < s → ∀ e, e < 32 → xw_ce (wc ((0 * 32 + i) * 32 + e)) (fp ((0 * 32 + i) * 32 + e)) (mp_cn P 0 i e) (fun q => (e, q) ∈ mp_ws P 0 i)) →
    (∀ j, s * 32 ≤ j → wc j = 0) →
    wX_fillNoStep_2 post ms ll F (nI s) ac ae mt mc mf sd li wc fp sa pa := by
  intro k
  induction k with
  | zero =>
    intro s F wc fp hs hF hce hz
    obtain ⟨F, rfl⟩ : ∃ n, F = n + 1 := ⟨F - 1, by omega⟩
    obtain rfl : s = 32 := by omega
    exact br_t (nI_le (a := 32) (by omega) (by omega)) (H wc fp hce hz)
  | succ k ih =>
    intro s F wc fp hs hF hce hz
    obtain ⟨F, rfl⟩ : ∃ n, F = n + 1 := ⟨F - 1, by omega⟩
    have hs32 : s < 32 := by omega
    refine br_f (nI_ge (b := 32) (by omega) (by decide)) ?_
    refine xw_rowOf (v := 0) ?_
    have hin : vp_in (nI ((0 * 32 + s) * 32 + s)) 12288 := vp_in_nI (by omega) (by decide)
    rw [nI_add, nI_clamp (by omega : (0 * 32 + s) * 32 + s < 2 ^ 31)]
    refine ⟨hin, nm_e ⟨hin, nm_e (nm_r (nI_1 _) (ih (s + 1) F _ _ (by omega) (by omega) ?_ ?_))⟩⟩
    · intro i hi e he
      by_cases y : i = s
      · subst y
        unfold mp_cn
        rw [mp_ws0]
        by_cases z : e = i
        · subst z
          rw [pk_us, pk_uLs]
          have en : mp_ct e [(e, [])] = 1 := by
            show (if e = e then 1 else 0) + 0 = 1
            rw [if_pos rfl]
          rw [en]
          refine ⟨rfl, fun z => absurd z (by decide), fun _ => ⟨[], List.mem_singleton.mpr rfl, rfl, fun q hq => ?_⟩⟩
          exact Nat.zero_le _
        · have en : mp_ct e [(i, [])] = 0 := by
            show (if i = e then 1 else 0) + 0 = 0
            rw [if_neg (fun h => z h.symm)]
          rw [en, pk_un (by omega), hz _ (by omega)]
          refine ⟨rfl, fun _ q hq => ?_, fun z => absurd z (Nat.lt_irrefl 0)⟩
          have := List.mem_singleton.mp hq
          injection this with h _
          exact z h
      · rw [pk_un (by omega), pk_uLn (by omega)]
        exact hce i (by omega) e he
    · intro j hj
      exact (pk_un (by omega)).trans (hz j (by omega))
theorem xw_init110 {post : SX → Prop} (ms ll : Int32) (ac ae mt mc mf sd li sa pa : Nat → Int32) {th sp : Nat → Int32}
    (H : ∀ (wc : Nat → Int32) (fp : Nat → Int64), (∀ v, v ≤ 6 → xw_tv (yp_P ac ae th mt mc sp) v wc fp) → (∀ j, 8192 ≤ j → wc j = 0) → post (ms, ll, ac, ae, mt, mc, mf, sd, li, wc, fp, sa, pa)) :
    ∀ (k a F : Nat) (wc : Nat → Int32) (fp : Nat → Int64), a + k = 6 → k < F → (∀ v, v ≤ a → xw_tv (yp_P ac ae th mt mc sp) v wc fp) → (∀ j, 8192 ≤ j → wc j = 0) →
    wX_init_110 post F (nI a) ms ll ac ae mt mc mf sd li wc fp sa pa := by
  intro k
  induction k with
  | zero =>
    intro a F wc fp ha hF hA hz
    obtain ⟨F, rfl⟩ : ∃ n, F = n + 1 := ⟨F - 1, by omega⟩
    obtain rfl : a = 6 := by omega
    exact br_t (nI_le (a := 6) (by omega) (by omega)) (H wc fp hA hz)
  | succ k ih =>
    intro a F wc fp ha hF hA hz
    obtain ⟨F, rfl⟩ : ∃ n, F = n + 1 := ⟨F - 1, by omega⟩
    refine br_f (nI_ge (b := 6) (by omega) (by decide)) ?_
    refine xw_fillA _ _ _ _ _ _ _ _ _ _ _ _ _ (th := th) (sp := sp) (by omega) ?_
    intro wc' fp' hA' hfr
    refine nm_r (nI_1 _) (ih (a + 1) F wc' fp' (by omega) (by omega) ?_ ?_)
    · intro v hv
      by_cases z : v = 1 + a
      · subst z
        exact hA'
      · intro s hs e he
        have f := hfr ((v * 32 + s) * 32 + e) (by omega)
        rw [f.1, f.2]
        exact hA v (by omega) s hs e he
    · intro j hj
      exact (hfr j (by omega)).1.trans (hz j hj)
