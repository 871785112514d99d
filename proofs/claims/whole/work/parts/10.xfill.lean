def xw_T (P : mp_PB) (v1 v2 s b e : Nat) (r : List Nat) : Prop := ∃ p q, (b, p) ∈ mp_ws P v1 s ∧ (e, q) ∈ mp_ws P v2 b ∧ r = p ++ q
theorem xw_an16 : ∀ t, t < 4 → mp_an (8 + t) ≤ 16 := by decide
theorem xw_pg {P : mp_PB} (ok : mp_ok P) {t v s e : Nat} {q : List Nat} (ht : t < 4) (hv : mp_sv t v) (hs : s < 32) (h : (e, q) ∈ mp_ws P v s) : mp_pg q ∧ 2 * q.length ≤ 16 ∧ e < 32 := by
  have n1 := (mp_an_s ht hv).1
  have n2 := xw_an16 t ht
  unfold mp_sv at hv
  obtain ⟨g1, g2, g3, g4⟩ := mp_ws_good ok (by omega) (by omega) hs h
  dsimp only at g1 g2 g3
  exact ⟨⟨by omega, fun a ha => by have := g3 a ha; omega⟩, by omega, g1⟩
theorem xw_58 {post : SX → Prop} {J : Int32 → Int32 → Int32 → (Nat → Int32) → (Nat → Int32) → (Nat → Int32) → (Nat → Int32) → (Nat → Int32) → (Nat → Int32) → (Nat → Int32) → (Nat → Int32) → (Nat → Int64) → (Nat → Int32) → (Nat → Int32) → Prop} {x1 : Int32} (ms ll : Int32) (ac ae mt mc mf sd li sa pa : Nat → Int32) {P : mp_PB} (ok : mp_ok P) {t s b v1 v2 : Nat} (ht : t < 4) (hs : s < 32) (hb : b < 32) (h1 : mp_sv t v1) (h2 : mp_sv t v2)
    {wc0 : Nat → Int32} {fp0 : Nat → Int64} (A0 : ∀ v, mp_sv t v → xw_tv P v wc0 fp0) {n0 : Nat → Nat} {S0 : Nat → List Nat → Prop} (hS0 : ∀ e q, S0 e q → mp_pg q) (hbd : ∀ e, e < 32 → n0 e + mp_cn P v1 s b * mp_cn P v2 b e < 2 ^ 31) (hc : 0 < mp_cn P v1 s b) (hc2 : ∀ e, mp_cn P v2 b e < 2 ^ 31) :
    ∀ (k e F : Nat) (wc : Nat → Int32) (fp : Nat → Int64), e + k = 32 → k < F → xw_fr (((8 + t) * 32 + s) * 32) wc0 wc fp0 fp →
    (∀ i, i < e → xw_ce (wc (((8 + t) * 32 + s) * 32 + i)) (fp (((8 + t) * 32 + s) * 32 + i)) (n0 i + mp_cn P v1 s b * mp_cn P v2 b i) (fun r => S0 i r ∨ xw_T P v1 v2 s b i r)) →
    (∀ i, e ≤ i → i < 32 → xw_ce (wc (((8 + t) * 32 + s) * 32 + i)) (fp (((8 + t) * 32 + s) * 32 + i)) (n0 i) (S0 i)) →
    (∀ (wc : Nat → Int32) (fp : Nat → Int64), xw_fr (((8 + t) * 32 + s) * 32) wc0 wc fp0 fp → (∀ i, i < 32 → xw_ce (wc (((8 + t) * 32 + s) * 32 + i)) (fp (((8 + t) * 32 + s) * 32 + i)) (n0 i + mp_cn P v1 s b * mp_cn P v2 b i) (fun r => S0 i r ∨ xw_T P v1 v2 s b i r)) → J (nI (b + 1)) ms ll ac ae mt mc mf sd li wc fp sa pa) →
    wX_addWaysBy_58 post J x1 (nI (((8 + t) * 32 + s) * 32)) (nI ((v1 * 32 + s) * 32)) (nI b) (nI (mp_cn P v1 s b)) (nI ((v2 * 32 + b) * 32)) F (nI e) ms ll ac ae mt mc mf sd li wc fp sa pa := by
  have w1 := h1
  have w2 := h2
  unfold mp_sv at w1 w2
  intro k
  induction k with
  | zero =>
    intro e F wc fp he hF hfr hlo hhi H
    obtain ⟨F, rfl⟩ : ∃ n, F = n + 1 := ⟨F - 1, by omega⟩
    exact br_t (nI_le (a := 32) (by omega) (by omega)) (nm_r (nI_1 _) (H wc fp hfr (fun i hi => hlo i (by omega))))
  | succ k ih =>
    intro e F wc fp he hF hfr hlo hhi H
    obtain ⟨F, rfl⟩ : ∃ n, F = n + 1 := ⟨F - 1, by omega⟩
    have he32 : e < 32 := by omega
    have hin2 : vp_in (nI ((v2 * 32 + b) * 32 + e)) 12288 := vp_in_nI (by omega) (by decide)
    have hin1 : vp_in (nI ((v1 * 32 + s) * 32 + b)) 12288 := vp_in_nI (by omega) (by decide)
    have f1 := hfr ((v1 * 32 + s) * 32 + b) (by omega)
    have f2 := hfr ((v2 * 32 + b) * 32 + e) (by omega)
    have c1 := A0 v1 h1 s hs b hb
    have c2 := A0 v2 h2 b hb e he32
    refine br_f (nI_ge (b := 32) (by omega) (by decide)) ?_
    rw [nI_add ((v2 * 32 + b) * 32) e, nI_add ((v1 * 32 + s) * 32) b, nI_add (((8 + t) * 32 + s) * 32) e, nI_clamp (by omega : (v2 * 32 + b) * 32 + e < 2 ^ 31), nI_clamp (by omega : (v1 * 32 + s) * 32 + b < 2 ^ 31), f1.2, f2.1, f2.2, c2.1, pk_mul]
    refine ⟨hin2, pk_le (mp_cn P v2 b e) 0 (fun z => nm_r (nI_1 _) ?_) (fun z => ⟨hin1, hin2, ?_⟩) rfl rfl (hc2 e)⟩
    · refine ih (e + 1) F wc fp (by omega) (by omega) hfr ?_ (fun i i1 i2 => hhi i (by omega) i2) H
      intro i hi
      by_cases y : i = e
      · subst y
        have z0 : mp_cn P v2 b i = 0 := by omega
        refine xw_ce_congr (hhi i (Nat.le_refl i) he32) (by rw [z0]; omega) (fun q => ⟨Or.inl, fun h => ?_⟩)
        rcases h with h | ⟨p, r, g1, g2, g3⟩
        · exact h
        · exact absurd g2 (c2.2.1 z0 r)
      · exact hlo i (by omega)
    · obtain ⟨p, p1, p2, p3⟩ := c1.2.2 hc
      obtain ⟨q, q1, q2, q3⟩ := c2.2.2 z
      obtain ⟨gp, lp, _⟩ := xw_pg ok ht h1 hs p1
      obtain ⟨gq, lq, _⟩ := xw_pg ok ht h2 hb q1
      rw [p2, q2]
      refine xw_joined gp gq (by omega) ⟨hin2, ?_⟩
      refine xw_addWays (T := xw_T P v1 v2 s b e) (r := p ++ q) _ _ _ _ _ _ _ _ _ _ _ _ _ (by omega) (hhi e (Nat.le_refl e) he32) (hbd e he32) (Nat.mul_pos hc z) (mp_pg_app gp gq (by omega)) (hS0 e) ⟨p, q, p1, q1, rfl⟩ ?_ ?_
      · rintro r ⟨p', q', g1, g2, rfl⟩
        obtain ⟨gp', lp', _⟩ := xw_pg ok ht h1 hs g1
        obtain ⟨gq', lq', _⟩ := xw_pg ok ht h2 hb g2
        exact mp_en_app gp gq gp' gq' (by omega) (by omega) (p3 p' g1) (q3 q' g2)
      · intro wc' fp' hce hfr'
        refine nm_r (nI_1 _) (ih (e + 1) F wc' fp' (by omega) (by omega) ?_ ?_ ?_ H)
        · intro j hj
          have a := hfr' j (by omega)
          have b := hfr j hj
          exact ⟨a.1.trans b.1, a.2.trans b.2⟩
        · intro i hi
          by_cases y : i = e
          · subst y
            exact hce
          · have a := hfr' (((8 + t) * 32 + s) * 32 + i) (by omega)
            rw [a.1, a.2]
            exact hlo i (by omega)
        · intro i i1 i2
          have a := hfr' (((8 + t) * 32 + s) * 32 + i) (by omega)
          rw [a.1, a.2]
          exact hhi i (by omega) i2
theorem xw_15 {post : SX → Prop} (ms ll : Int32) (ac ae mt mc mf sd li sa pa : Nat → Int32) {P : mp_PB} (ok : mp_ok P) {t s m v1 v2 : Nat} (ht : t < 4) (hs : s < 32) (hm : m < 8) (h1 : mp_sv t v1) (h2 : mp_sv t v2) (hsd : sd m = nI v2)
    {wc0 : Nat → Int32} {fp0 : Nat → Int64} (A0 : ∀ v, mp_sv t v → xw_tv P v wc0 fp0) {n0 : Nat → Nat} {S0 : Nat → List Nat → Prop} (hS0 : ∀ e q, S0 e q → mp_pg q) (hbd : ∀ e, e < 32 → n0 e + mp_su (fun b => mp_cn P v1 s b * mp_cn P v2 b e) 32 < 2 ^ 31) (hcn : ∀ v b e, mp_sv t v → b < 32 → mp_cn P v b e < 2 ^ 31)
    (H : ∀ (wc : Nat → Int32) (fp : Nat → Int64), xw_fr (((8 + t) * 32 + s) * 32) wc0 wc fp0 fp → (∀ i, i < 32 → xw_ce (wc (((8 + t) * 32 + s) * 32 + i)) (fp (((8 + t) * 32 + s) * 32 + i)) (n0 i + mp_su (fun b => mp_cn P v1 s b * mp_cn P v2 b i) 32) (fun r => S0 i r ∨ ∃ b, b < 32 ∧ xw_T P v1 v2 s b i r)) → post (ms, ll, ac, ae, mt, mc, mf, sd, li, wc, fp, sa, pa)) :
    ∀ (k b F : Nat) (wc : Nat → Int32) (fp : Nat → Int64), b + k = 32 → k < F → xw_fr (((8 + t) * 32 + s) * 32) wc0 wc fp0 fp →
    (∀ i, i < 32 → xw_ce (wc (((8 + t) * 32 + s) * 32 + i)) (fp (((8 + t) * 32 + s) * 32 + i)) (n0 i + mp_su (fun b => mp_cn P v1 s b * mp_cn P v2 b i) b) (fun r => S0 i r ∨ ∃ b', b' < b ∧ xw_T P v1 v2 s b' i r)) →
    wX_addWaysBy_15 post (nI m) (nI (((8 + t) * 32 + s) * 32)) (nI ((v1 * 32 + s) * 32)) F (nI b) ms ll ac ae mt mc mf sd li wc fp sa pa := by
  have w1 := h1
  have w2 := h2
  unfold mp_sv at w1 w2
  intro k
  induction k with
  | zero =>
    intro b F wc fp hb hF hfr hce
    obtain ⟨F, rfl⟩ : ∃ n, F = n + 1 := ⟨F - 1, by omega⟩
    obtain rfl : b = 32 := by omega
    exact br_t (nI_le (a := 32) (by omega) (by omega)) (H wc fp hfr hce)
  | succ k ih =>
    intro b F wc fp hb hF hfr hce
    obtain ⟨F, rfl⟩ : ∃ n, F = n + 1 := ⟨F - 1, by omega⟩
    have hb32 : b < 32 := by omega
    have hin1 : vp_in (nI ((v1 * 32 + s) * 32 + b)) 12288 := vp_in_nI (by omega) (by decide)
    have f1 := hfr ((v1 * 32 + s) * 32 + b) (by omega)
    have c1 := A0 v1 h1 s hs b hb32
    refine br_f (nI_ge (b := 32) (by omega) (by decide)) ?_
    rw [nI_add ((v1 * 32 + s) * 32) b, nI_clamp (by omega : (v1 * 32 + s) * 32 + b < 2 ^ 31), f1.1, c1.1]
    refine ⟨hin1, nm_e ?_⟩
    refine pk_eq (mp_cn P v1 s b) 0 (fun z => nm_r (nI_1 _) ?_) (fun z => ⟨vp_in_nI hm (by decide), ?_⟩) rfl rfl (hcn v1 s b h1 hs)
    · refine ih (b + 1) F wc fp (by omega) (by omega) hfr ?_
      intro i hi
      refine xw_ce_congr (hce i hi) ?_ (fun q => ⟨fun h => ?_, fun h => ?_⟩)
      · show _ = n0 i + (mp_su _ b + mp_cn P v1 s b * _)
        rw [z, Nat.zero_mul, Nat.add_zero]
      · rcases h with h | ⟨b', g1, g2⟩
        · exact Or.inl h
        · exact Or.inr ⟨b', by omega, g2⟩
      · rcases h with h | ⟨b', g1, g2⟩
        · exact Or.inl h
        · by_cases y : b' = b
          · subst y
            obtain ⟨p, r, k1, k2, k3⟩ := g2
            exact absurd k1 (c1.2.1 z p)
          · exact Or.inr ⟨b', by omega, g2⟩
    · rw [nI_clamp (by omega : m < 2 ^ 31), hsd]
      refine xw_rowOf ⟨33, ?_⟩
      have hmono : ∀ e, mp_su (fun b => mp_cn P v1 s b * mp_cn P v2 b e) b + mp_cn P v1 s b * mp_cn P v2 b e ≤ mp_su (fun b => mp_cn P v1 s b * mp_cn P v2 b e) 32 := fun e => mp_su_mono (fun b => mp_cn P v1 s b * mp_cn P v2 b e) (m := b + 1) hb32
      refine xw_58 (n0 := fun i => n0 i + mp_su (fun b => mp_cn P v1 s b * mp_cn P v2 b i) b) (S0 := fun i r => S0 i r ∨ ∃ b', b' < b ∧ xw_T P v1 v2 s b' i r) _ _ _ _ _ _ _ _ _ _ _ ok ht hs hb32 h1 h2 A0 ?_ ?_ (by omega) (fun e => hcn v2 b e h2 hb32) 32 0 33 wc fp (by omega) (by omega) hfr (fun i hi => by omega) (fun i _ hi => hce i hi) ?_
      · intro e q hq
        rcases hq with hq | ⟨b', g1, p, r, k1, k2, k3⟩
        · exact hS0 e q hq
        · obtain ⟨gp, lp, _⟩ := xw_pg ok ht h1 hs k1
          obtain ⟨gq, lq, _⟩ := xw_pg ok ht h2 (by omega) k2
          rw [k3]
          exact mp_pg_app gp gq (by omega)
      · intro e he
        have a := hbd e he
        have b := hmono e
        omega
      · intro wc' fp' hfr' hce'
        refine ih (b + 1) F wc' fp' (by omega) (by omega) hfr' ?_
        intro i hi
        refine xw_ce_congr (hce' i hi) (Nat.add_assoc _ _ _) (fun q => ⟨fun h => ?_, fun h => ?_⟩)
        · rcases h with (h | ⟨b', g1, g2⟩) | h
          · exact Or.inl h
          · exact Or.inr ⟨b', by omega, g2⟩
          · exact Or.inr ⟨b, by omega, h⟩
        · rcases h with h | ⟨b', g1, g2⟩
          · exact Or.inl (Or.inl h)
          · by_cases y : b' = b
            · subst y
              exact Or.inr g2
            · exact Or.inl (Or.inr ⟨b', by omega, g2⟩)
/-- what the component keeps of the methods -/
def xw_M (ms : Int32) (mf sd th sp : Nat → Int32) : Prop := xw_MS ms th ∧ ∀ m, m < 8 → ¬ th m = 0 → mf m = sp m &&& 15 ∧ sd m = sp m >>> ((4 : Int32) &&& 31)
def xw_SM (P : mp_PB) (t s m e : Nat) (r : List Nat) : Prop := ∃ i, i < m ∧ mp_app P t i s = true ∧ ∃ b, b < 32 ∧ xw_T P (mp_fs P i) (mp_sn P i) s b e r
theorem xw_tk {ac ae th mt mc sp : Nat → Int32} (hok : yp_ok th mt sp) : ∀ t m s, t < 4 → m < 8 → mp_app (yp_P ac ae th mt mc sp) t m s = true → (fun m => (mt m).toNatClampNeg) m = t := by
  intro t m s ht hm ha
  obtain ⟨h1, h2, h3⟩ := yp_app.mp ha
  show (mt m).toNatClampNeg = t
  rw [h2, nI_clamp (by omega)]
theorem xw_cnb {ac ae th mt mc sp : Nat → Int32} (hok : yp_ok th mt sp) {v s : Nat} (e : Nat) (hv : v ≤ 11) (hs : s < 32) : mp_cn (yp_P ac ae th mt mc sp) v s e ≤ 1048576 :=
  Nat.le_trans (mp_ct_len e _) (mp_len_b (yp_mok hok) (xw_tk hok) hv hs)
theorem xw_31 {post : SX → Prop} {J2 J8 : Int32 → Int32 → Int32 → (Nat → Int32) → (Nat → Int32) → (Nat → Int32) → (Nat → Int32) → (Nat → Int32) → (Nat → Int32) → (Nat → Int32) → (Nat → Int32) → (Nat → Int64) → (Nat → Int32) → (Nat → Int32) → Prop} (ms ll : Int32) (ac ae mt mc mf sd li sa pa : Nat → Int32) {th sp : Nat → Int32} (hok : yp_ok th mt sp) (hM : xw_M ms mf sd th sp) {t s : Nat} (ht : t < 4) (hs : s < 32)
    {wc0 : Nat → Int32} {fp0 : Nat → Int64} (A0 : ∀ v, mp_sv t v → xw_tv (yp_P ac ae th mt mc sp) v wc0 fp0)
    (H : ∀ (wc : Nat → Int32) (fp : Nat → Int64), xw_fr (((8 + t) * 32 + s) * 32) wc0 wc fp0 fp → (∀ i, i < 32 → xw_ce (wc (((8 + t) * 32 + s) * 32 + i)) (fp (((8 + t) * 32 + s) * 32 + i)) (mp_su (mp_am (yp_P ac ae th mt mc sp) t s i) 8) (xw_SM (yp_P ac ae th mt mc sp) t s 8 i)) → J8 (nI (s + 1)) ms ll ac ae mt mc mf sd li wc fp sa pa) :
    ∀ (k m F : Nat) (wc : Nat → Int32) (fp : Nat → Int64), m + k = 8 → k < F → xw_fr (((8 + t) * 32 + s) * 32) wc0 wc fp0 fp →
    (∀ i, i < 32 → xw_ce (wc (((8 + t) * 32 + s) * 32 + i)) (fp (((8 + t) * 32 + s) * 32 + i)) (mp_su (mp_am (yp_P ac ae th mt mc sp) t s i) m) (xw_SM (yp_P ac ae th mt mc sp) t s m i)) →
    wX_fillTaskSteps_31 post J2 J8 (nI t) (nI s) (nI (((8 + t) * 32 + s) * 32)) F (nI m) ms ll ac ae mt mc mf sd li wc fp sa pa := by
  have ok := yp_mok (co := ac) (ef := ae) (de := mc) hok
  intro k
  induction k with
  | zero =>
    intro m F wc fp hm hF hfr hce
    obtain ⟨F, rfl⟩ : ∃ n, F = n + 1 := ⟨F - 1, by omega⟩
    obtain rfl : m = 8 := by omega
    exact br_t (nI_le (a := 8) (by omega) (by omega)) (nm_r (nI_1 _) (H wc fp hfr hce))
  | succ k ih =>
    intro m F wc fp hm hF hfr hce
    obtain ⟨F, rfl⟩ : ∃ n, F = n + 1 := ⟨F - 1, by omega⟩
    have hm8 : m < 8 := by omega
    have hin : vp_in (nI m) 8 := vp_in_nI hm8 (by decide)
    have hcl : (nI m).toNatClampNeg = m := nI_clamp (by omega)
    have skip : ¬ mp_app (yp_P ac ae th mt mc sp) t m s = true → wX_fillTaskSteps_31 post J2 J8 (nI t) (nI s) (nI (((8 + t) * 32 + s) * 32)) F (nI (m + 1)) ms ll ac ae mt mc mf sd li wc fp sa pa := by
      intro ha
      refine ih (m + 1) F wc fp (by omega) (by omega) hfr ?_
      intro i hi
      refine xw_ce_congr (hce i hi) ?_ (fun q => ⟨fun h => ?_, fun h => ?_⟩)
      · show _ = mp_su _ m + mp_am _ t s i m
        unfold mp_am
        rw [if_neg ha, Nat.add_zero]
      · obtain ⟨j, g1, g2⟩ := h
        exact ⟨j, by omega, g2⟩
      · obtain ⟨j, g1, g2, g3⟩ := h
        by_cases y : j = m
        · subst y
          exact absurd g2 ha
        · exact ⟨j, by omega, g2, g3⟩
    refine br_f (nI_ge (b := 8) (by omega) (by decide)) ?_
    refine xw_has _ _ _ _ _ _ _ _ _ _ _ _ _ hM.1 hm8 ?_
    by_cases z : th m = 0
    · rw [if_pos z]
      exact br_t rfl (nm_r (nI_1 _) (skip (fun h => (yp_app.mp h).1 z)))
    rw [if_neg z]
    refine br_f (by decide) ⟨hin, ?_⟩
    rw [hcl]
    refine br_c (fun w => ⟨hin, ?_⟩) (fun w => nm_r (nI_1 _) (skip (fun h => w (yp_app.mp h).2.1)))
    apply xw_holds
    by_cases x : yp_hI (mc m) s = true
    · rw [if_pos x]
      refine br_f (by decide) ?_
      have ha : mp_app (yp_P ac ae th mt mc sp) t m s = true := yp_app.mpr ⟨z, w, x⟩
      obtain ⟨k1, k2⟩ := ok.2 t m s ht hm8 ha
      obtain ⟨t', kk, ht', e1, hkk, e2, s1, s2⟩ := (hok m hm8).2 z
      obtain ⟨m1, m2⟩ := hM.2 m hm8 z
      have ef := yp_fs (co := ac) (ef := ae) (th := th) (ta := mt) (de := mc) e2 hkk
      have es := yp_sn (co := ac) (ef := ae) (th := th) (ta := mt) (de := mc) e2 hkk
      have hmf : mf m = nI (mp_fs (yp_P ac ae th mt mc sp) m) := by rw [m1, ef.2, ef.1]
      have hsd : sd m = nI (mp_sn (yp_P ac ae th mt mc sp) m) := by rw [m2, es.2, es.1]
      have ham : ∀ i, mp_su (mp_am (yp_P ac ae th mt mc sp) t s i) m + mp_su (fun b => mp_cn (yp_P ac ae th mt mc sp) (mp_fs (yp_P ac ae th mt mc sp) m) s b * mp_cn (yp_P ac ae th mt mc sp) (mp_sn (yp_P ac ae th mt mc sp) m) b i) 32 = mp_su (mp_am (yp_P ac ae th mt mc sp) t s i) (m + 1) := by
        intro i
        show _ = mp_su _ m + mp_am _ t s i m
        unfold mp_am
        rw [if_pos ha]
      refine ⟨hin, ?_⟩
      rw [hcl, hmf]
      refine xw_rowOf ⟨33, ?_⟩
      refine xw_15 (n0 := fun i => mp_su (mp_am (yp_P ac ae th mt mc sp) t s i) m) (S0 := xw_SM (yp_P ac ae th mt mc sp) t s m) _ _ _ _ _ _ _ _ _ _ _ ok ht hs hm8 k1 k2 hsd A0 ?_ ?_ ?_ ?_ 32 0 33 wc fp (by omega) (by omega) hfr ?_
      · rintro e q ⟨i, g1, g2, b, g3, p, r, g4, g5, g6⟩
        obtain ⟨l1, l2⟩ := ok.2 t i s ht (by omega) g2
        obtain ⟨gp, lp, _⟩ := xw_pg ok ht l1 hs g4
        obtain ⟨gq, lq, _⟩ := xw_pg ok ht l2 g3 g5
        rw [g6]
        exact mp_pg_app gp gq (by omega)
      · intro e he
        show mp_su _ m + _ < 2 ^ 31
        rw [ham e]
        have a := mp_su_mono (mp_am (yp_P ac ae th mt mc sp) t s e) (m := m + 1) (n := 8) (by omega)
        rw [← mp_cn_t ok e ht hs] at a
        have b := xw_cnb (ac := ac) (ae := ae) (mc := mc) hok (v := 8 + t) e (by omega) hs
        omega
      · intro v b e hv hb
        unfold mp_sv at hv
        have := xw_cnb (ac := ac) (ae := ae) (mc := mc) hok (v := v) (s := b) e (by omega) hb
        omega
      · intro wc' fp' hfr' hce'
        refine nm_r (nI_1 _) (ih (m + 1) F wc' fp' (by omega) (by omega) hfr' ?_)
        intro i hi
        refine xw_ce_congr (hce' i hi) (ham i) (fun q => ⟨fun h => ?_, fun h => ?_⟩)
        · rcases h with ⟨j, g1, g2⟩ | ⟨b, g1, g2⟩
          · exact ⟨j, by omega, g2⟩
          · exact ⟨m, by omega, ha, b, g1, g2⟩
        · obtain ⟨j, g1, g2, b, g3, g4⟩ := h
          by_cases y : j = m
          · subst y
            exact Or.inr ⟨b, g3, g4⟩
          · exact Or.inl ⟨j, by omega, g2, b, g3, g4⟩
      · intro i hi
        refine xw_ce_congr (hce i hi) (Nat.add_zero _).symm (fun q => ⟨Or.inl, fun h => ?_⟩)
        rcases h with h | ⟨b, g1, g2⟩
        · exact h
        · omega
    · rw [if_neg x]
      exact br_t rfl (nm_r (nI_1 _) (skip (fun h => x (yp_app.mp h).2.2)))
