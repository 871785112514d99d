def xw_PA (P : mp_PB) (l : List Nat) (σ : Nat → Nat) (t : Nat) (pa : Nat → Int32) : Prop := ∀ u, t < u → u < 4 → ∀ i, i ≤ l.length → xw_PS (pa (u * 9 + i)) (mp_RP P l σ (8 + u) i)
theorem xw_p21 {post : SX → Prop} {J2 J8 : Int32 → (Nat → Int32) → (Nat → Int32) → (Nat → Int32) → (Nat → Int32) → (Nat → Int32) → (Nat → Int32) → (Nat → Int32) → (Nat → Int32) → (Nat → Int64) → (Nat → Int32) → (Nat → Int32) → Prop} (ms : Int32) (ac ae mt mc mf sd li wc sa pa : Nat → Int32) (fp : Nat → Int64) {th sp : Nat → Int32} (hok : yp_ok th mt sp) (hM : xw_M ms mf sd th sp) {l : List Nat} {σ : Nat → Nat} (hσ : mp_SG (yp_P ac ae th mt mc sp) l σ) (hl8 : l.length ≤ 8) (hli : yw_CH li 0 l) (hld : ∀ a, a ∈ l → a < 6) {t i : Nat} (ht : t < 4) (hi : i ≤ l.length) (hsa : sa i = nI (σ i))
    (hpa : xw_PA (yp_P ac ae th mt mc sp) l σ t pa)
    (H : ∀ x, xw_PS x (mp_RP (yp_P ac ae th mt mc sp) l σ (8 + t) i) → J8 (nI (i + 1)) ac ae mt mc mf sd li wc fp sa (upd pa (t * 9 + i) x)) :
    ∀ (k m F : Nat) (x3 : Int32), m + k = 8 → k < F → xw_PS x3 (fun k => ∃ m', m' < m ∧ mp_app (yp_P ac ae th mt mc sp) t m' (σ i) = true ∧ ∃ j, i ≤ j ∧ j ≤ l.length ∧ mp_RP (yp_P ac ae th mt mc sp) l σ (mp_fs (yp_P ac ae th mt mc sp) m') i j ∧ mp_RP (yp_P ac ae th mt mc sp) l σ (mp_sn (yp_P ac ae th mt mc sp) m') j k) →
    wX_fillPlacesAfter_21 post J2 J8 (nI t) (nI i) ms (nI l.length) ac ae mt mc mf sd li wc fp sa pa F x3 (nI m) := by
  have ok := yp_mok (co := ac) (ef := ae) (de := mc) hok
  intro k
  induction k with
  | zero =>
    intro m F x3 hm hF hx
    obtain ⟨F, rfl⟩ : ∃ n, F = n + 1 := ⟨F - 1, by omega⟩
    obtain rfl : m = 8 := by omega
    have e9 : nI t * 9 + nI i = nI (t * 9 + i) := by
      rw [show (9 : Int32) = nI 9 from rfl, pk_mul, nI_add]
    refine br_t (nI_le (a := 8) (by omega) (by omega)) ?_
    rw [e9, nI_clamp (by omega : t * 9 + i < 2 ^ 31)]
    exact ⟨vp_in_nI (by omega) (by decide), nm_e (nm_r (nI_1 _) (H x3 (xw_PS_congr hx (fun j => mp_RPt ok hσ ht hi))))⟩
  | succ k ih =>
    intro m F x3 hm hF hx
    obtain ⟨F, rfl⟩ : ∃ n, F = n + 1 := ⟨F - 1, by omega⟩
    have hm8 : m < 8 := by omega
    have hin : vp_in (nI m) 8 := vp_in_nI hm8 (by decide)
    have hcl : (nI m).toNatClampNeg = m := nI_clamp (by omega)
    have skip : ¬ mp_app (yp_P ac ae th mt mc sp) t m (σ i) = true → wX_fillPlacesAfter_21 post J2 J8 (nI t) (nI i) ms (nI l.length) ac ae mt mc mf sd li wc fp sa pa F x3 (nI (m + 1)) := by
      intro ha
      refine ih (m + 1) F x3 (by omega) (by omega) (xw_PS_congr hx (fun j => ⟨?_, ?_⟩))
      · rintro ⟨m', g1, g2, g3⟩
        by_cases y : m' = m
        · subst y
          exact absurd g2 ha
        · exact ⟨m', by omega, g2, g3⟩
      · rintro ⟨m', g1, g2⟩
        exact ⟨m', by omega, g2⟩
    refine br_f (nI_ge (b := 8) (by omega) (by decide)) ?_
    refine xw_has _ _ _ _ _ _ _ _ _ _ _ _ _ hM.1 hm8 ?_
    by_cases z : th m = 0
    · rw [if_pos z]
      exact br_t rfl (nm_r (nI_1 _) (skip (fun h => (yp_app.mp h).1 z)))
    rw [if_neg z]
    refine br_f (by decide) ⟨hin, ?_⟩
    rw [hcl]
    refine br_c (fun w => ⟨hin, vp_in_nI (by omega) (by decide), ?_⟩) (fun w => nm_r (nI_1 _) (skip (fun h => w (yp_app.mp h).2.1)))
    rw [nI_clamp (by omega : i < 2 ^ 31), hsa]
    apply xw_holds
    by_cases x : yp_hI (mc m) (σ i) = true
    · rw [if_pos x]
      refine br_f (by decide) ?_
      have ha : mp_app (yp_P ac ae th mt mc sp) t m (σ i) = true := yp_app.mpr ⟨z, w, x⟩
      obtain ⟨k1, k2⟩ := ok.2 t m _ ht hm8 ha
      obtain ⟨t', kk, ht', e1, hkk, e2, s1, s2⟩ := (hok m hm8).2 z
      obtain ⟨m1, m2⟩ := hM.2 m hm8 z
      have ef := yp_fs (co := ac) (ef := ae) (th := th) (ta := mt) (de := mc) e2 hkk
      have es := yp_sn (co := ac) (ef := ae) (th := th) (ta := mt) (de := mc) e2 hkk
      have hmf : mf m = nI (mp_fs (yp_P ac ae th mt mc sp) m) := by rw [m1, ef.2, ef.1]
      have hsd : sd m = nI (mp_sn (yp_P ac ae th mt mc sp) m) := by rw [m2, es.2, es.1]
      unfold mp_sv at k1 k2
      refine xw_pmeth _ _ _ _ _ _ _ _ _ _ _ _ hσ hl8 hli hld hm8 hi (by omega) (by omega) (by omega) (by omega) hmf hsd ?_ ?_ ?_
      · intro u hu
        rw [hu]
        exact hpa u (by omega) (by omega)
      · intro u hu
        rw [hu]
        exact hpa u (by omega) (by omega)
      · intro y hy
        refine nm_e (nm_r (nI_1 _) (ih (m + 1) F _ (by omega) (by omega) (xw_PS_or hx hy (fun j => ⟨?_, ?_⟩))))
        · rintro ⟨m', g1, g2, g3⟩
          by_cases y : m' = m
          · subst y
            exact Or.inr g3
          · exact Or.inl ⟨m', by omega, g2, g3⟩
        · rintro (⟨m', g1, g2⟩ | g)
          · exact ⟨m', by omega, g2⟩
          · exact ⟨m, by omega, ha, g⟩
    · rw [if_neg x]
      exact br_t rfl (nm_r (nI_1 _) (skip (fun h => x (yp_app.mp h).2.2)))
theorem xw_p8 {post : SX → Prop} {J2 : Int32 → (Nat → Int32) → (Nat → Int32) → (Nat → Int32) → (Nat → Int32) → (Nat → Int32) → (Nat → Int32) → (Nat → Int32) → (Nat → Int32) → (Nat → Int64) → (Nat → Int32) → (Nat → Int32) → Prop} (ms : Int32) (ac ae mt mc mf sd li wc sa : Nat → Int32) (fp : Nat → Int64) {th sp : Nat → Int32} (hok : yp_ok th mt sp) (hM : xw_M ms mf sd th sp) {l : List Nat} {σ : Nat → Nat} (hσ : mp_SG (yp_P ac ae th mt mc sp) l σ) (hl8 : l.length ≤ 8) (hli : yw_CH li 0 l) (hld : ∀ a, a ∈ l → a < 6) {t : Nat} (ht : t < 4) (hsa : ∀ i, i ≤ l.length → sa i = nI (σ i))
    (H : ∀ pa : Nat → Int32, xw_PA (yp_P ac ae th mt mc sp) l σ t pa → (∀ i, i ≤ l.length → xw_PS (pa (t * 9 + i)) (mp_RP (yp_P ac ae th mt mc sp) l σ (8 + t) i)) → J2 (nI t + (-1)) ac ae mt mc mf sd li wc fp sa pa) :
    ∀ (k i F : Nat) (pa : Nat → Int32), i + k = l.length + 1 → k < F → xw_PA (yp_P ac ae th mt mc sp) l σ t pa → (∀ j, j < i → xw_PS (pa (t * 9 + j)) (mp_RP (yp_P ac ae th mt mc sp) l σ (8 + t) j)) →
    wX_fillPlacesAfter_8 post J2 (nI t) ms (nI l.length) F (nI i) ac ae mt mc mf sd li wc fp sa pa := by
  intro k
  induction k with
  | zero =>
    intro i F pa hi hF hpa hz
    obtain ⟨F, rfl⟩ : ∃ n, F = n + 1 := ⟨F - 1, by omega⟩
    exact br_t (nI_lt (by omega) (by omega)) (nm_e (H pa hpa (fun j hj => hz j (by omega))))
  | succ k ih =>
    intro i F pa hi hF hpa hz
    obtain ⟨F, rfl⟩ : ∃ n, F = n + 1 := ⟨F - 1, by omega⟩
    refine br_f (nI_nlt (by omega) (by omega)) ⟨9, xw_p21 _ _ _ _ _ _ _ _ _ _ _ _ hok hM hσ hl8 hli hld ht (by omega) (hsa i (by omega)) hpa ?_ 8 0 9 0 (by omega) (by omega) (xw_PS_0 ?_)⟩
    · intro x hx
      refine ih (i + 1) F _ (by omega) (by omega) ?_ ?_
      · intro u hu1 hu2 j hj
        rw [pk_un (by omega)]
        exact hpa u hu1 hu2 j hj
      · intro j hj
        by_cases y : j = i
        · subst y
          rw [pk_us]
          exact hx
        · rw [pk_un (by omega)]
          exact hz j (by omega)
    · rintro j ⟨m', g1, _⟩
      omega
theorem xw_p2 {post : SX → Prop} (ms : Int32) (ac ae mt mc mf sd li wc sa : Nat → Int32) (fp : Nat → Int64) {th sp : Nat → Int32} (hok : yp_ok th mt sp) (hM : xw_M ms mf sd th sp) {l : List Nat} {σ : Nat → Nat} (hσ : mp_SG (yp_P ac ae th mt mc sp) l σ) (hl8 : l.length ≤ 8) (hli : yw_CH li 0 l) (hld : ∀ a, a ∈ l → a < 6) (hsa : ∀ i, i ≤ l.length → sa i = nI (σ i))
    (H : ∀ pa : Nat → Int32, (∀ u, u < 4 → ∀ i, i ≤ l.length → xw_PS (pa (u * 9 + i)) (mp_RP (yp_P ac ae th mt mc sp) l σ (8 + u) i)) → post (ms, nI l.length, ac, ae, mt, mc, mf, sd, li, wc, fp, sa, pa)) :
    ∀ (k F : Nat) (x1 : Int32) (pa : Nat → Int32), k ≤ 4 → k < F → x1 = (if k = 0 then -1 else nI (k - 1)) → (∀ u, k ≤ u → u < 4 → ∀ i, i ≤ l.length → xw_PS (pa (u * 9 + i)) (mp_RP (yp_P ac ae th mt mc sp) l σ (8 + u) i)) →
    wX_fillPlacesAfter_2 post ms (nI l.length) F x1 ac ae mt mc mf sd li wc fp sa pa := by
  intro k
  induction k with
  | zero =>
    intro F x1 pa hk hF hx hA
    obtain ⟨F, rfl⟩ : ∃ n, F = n + 1 := ⟨F - 1, by omega⟩
    rw [if_pos rfl] at hx
    subst hx
    exact br_t (by decide) (H pa (fun u hu => hA u (by omega) hu))
  | succ k ih =>
    intro F x1 pa hk hF hx hA
    obtain ⟨F, rfl⟩ : ∃ n, F = n + 1 := ⟨F - 1, by omega⟩
    rw [if_neg (by omega), Nat.add_sub_cancel] at hx
    subst hx
    refine br_f (nI_pos (by omega)) ⟨l.length + 2, xw_p8 _ _ _ _ _ _ _ _ _ _ _ hok hM hσ hl8 hli hld (by omega) hsa ?_ (l.length + 1) 0 _ pa (by omega) (by omega) (fun u hu => hA u (by omega)) (fun i hi => by omega)⟩
    intro pa' hA1 hA2
    refine ih F _ pa' (by omega) (by omega) ?_ ?_
    · by_cases z : k = 0
      · subst z
        decide
      · rw [if_neg z]
        obtain ⟨j, rfl⟩ : ∃ j, k = j + 1 := ⟨k - 1, by omega⟩
        exact pk_m1 j
    · intro u hu1 hu2
      by_cases z : u = k
      · subst z
        exact hA2
      · exact hA1 u (by omega) hu2
/-- doing the list -/
theorem xw_walk11 {post : Int32 → SX → Prop} (ms : Int32) (ac ae mt mc mf sd li wc pa : Nat → Int32) (fp : Nat → Int64) (th sp : Nat → Int32) {L : Nat} (hL : L ≤ 8) : ∀ (l : List Nat) (i F s : Nat) (sa : Nat → Int32), i + l.length = L → l.length < F → yw_CH li i l → (∀ a, a ∈ l → a < 6) → s < 32 → sa i = nI s →
    (mp_run (yp_P ac ae th mt mc sp) l s = none → ∀ sa' : Nat → Int32, post (-1) (ms, nI L, ac, ae, mt, mc, mf, sd, li, wc, fp, sa', pa)) →
    (∀ e, mp_run (yp_P ac ae th mt mc sp) l s = some e → e < 32 → ∀ sa' : Nat → Int32, (∀ j, j ≤ l.length → sa' (i + j) = nI (mp_sg (yp_P ac ae th mt mc sp) l s j)) → (∀ j, j < i → sa' j = sa j) → post (nI e) (ms, nI L, ac, ae, mt, mc, mf, sd, li, wc, fp, sa', pa)) →
    wX_walkList_11 post ms (nI L) F (nI s) (nI i) ac ae mt mc mf sd li wc fp sa pa := by
  intro l
  induction l with
  | nil =>
    intro i F s sa h1 hF hch hd hs hsa h0 h1'
    obtain ⟨F, rfl⟩ : ∃ n, F = n + 1 := ⟨F - 1, by omega⟩
    have e : i + 0 = L := h1
    refine br_t (nI_le (by omega) (by omega)) (h1' s rfl hs sa (fun j hj => ?_) (fun j _ => rfl))
    have : j = 0 := by
      have : j ≤ 0 := hj
      omega
    subst this
    exact hsa
  | cons a l ih =>
    intro i F s sa h1 hF hch hd hs hsa h0 h1'
    have e : i + (l.length + 1) = L := h1
    have hF' : l.length + 1 < F := hF
    obtain ⟨F, rfl⟩ : ∃ n, F = n + 1 := ⟨F - 1, by omega⟩
    have ha := hd a List.mem_cons_self
    refine br_f (nI_ge (by omega) (by omega)) ⟨vp_in_nI (by omega) (by decide), ?_⟩
    rw [nI_clamp (by omega : i < 2 ^ 31), hch.1]
    refine xw_outcome _ _ _ _ _ _ _ _ _ _ _ _ _ ha hs ?_
    have er : mp_run (yp_P ac ae th mt mc sp) (a :: l) s = if yp_hI (ac a) s then mp_run (yp_P ac ae th mt mc sp) l (yp_chg (ae a) s) else none := rfl
    rw [er] at h0 h1'
    by_cases x : yp_hI (ac a) s = true
    · rw [if_pos x] at h0 h1' ⊢
      have hc32 := (yp_ex_eq (ae a) hs).2
      have hn1 : ¬ nI (yp_chg (ae a) s) = -1 := by
        intro h
        have h2 := nI_pos (n := yp_chg (ae a) s) (by omega)
        rw [h] at h2
        exact h2 (by decide)
      refine br_f hn1 ?_
      rw [nI_1, nI_clamp (by omega : i + 1 < 2 ^ 31)]
      refine ⟨vp_in_nI (by omega) (by decide), nm_e (nm_e (ih (i + 1) F _ _ (by omega) (by omega) hch.2 (fun a h => hd a (List.mem_cons_of_mem _ h)) hc32 pk_us h0 ?_))⟩
      intro e he he32 sa' g1 g2
      refine h1' e he he32 sa' (fun j hj => ?_) (fun j hj => ?_)
      · cases j with
        | zero => exact (g2 i (by omega)).trans ((pk_un (by omega)).trans hsa)
        | succ j =>
          have hj' : j + 1 ≤ l.length + 1 := hj
          have := g1 j (by omega)
          have e2 : i + 1 + j = i + (j + 1) := by omega
          rw [e2] at this
          exact this
      · exact (g2 j (by omega)).trans (pk_un (by omega))
    · rw [if_neg x] at h0 ⊢
      exact br_t rfl (h0 rfl sa)
theorem xw_walk {post : Int32 → SX → Prop} (ms : Int32) (ac ae mt mc mf sd li wc sa pa : Nat → Int32) (fp : Nat → Int64) (th sp : Nat → Int32) {l : List Nat} (hl8 : l.length ≤ 8) (hli : yw_CH li 0 l) (hld : ∀ a, a ∈ l → a < 6) {s : Nat} (hs : s < 32)
    (h0 : mp_run (yp_P ac ae th mt mc sp) l s = none → ∀ sa' : Nat → Int32, post (-1) (ms, nI l.length, ac, ae, mt, mc, mf, sd, li, wc, fp, sa', pa))
    (h1 : ∀ e, mp_run (yp_P ac ae th mt mc sp) l s = some e → e < 32 → ∀ sa' : Nat → Int32, (∀ j, j ≤ l.length → sa' j = nI (mp_sg (yp_P ac ae th mt mc sp) l s j)) → post (nI e) (ms, nI l.length, ac, ae, mt, mc, mf, sd, li, wc, fp, sa', pa)) :
    wpX_walkList post (ms, nI l.length, ac, ae, mt, mc, mf, sd, li, wc, fp, sa, pa) (nI s) := by
  refine nm_e ⟨l.length + 1, xw_walk11 _ _ _ _ _ _ _ _ _ _ _ th sp hl8 l 0 _ s _ (by omega) (by omega) hli hld hs pk_us h0 ?_⟩
  intro e he he32 sa' g1 _
  refine h1 e he he32 sa' (fun j hj => ?_)
  have := g1 j hj
  rw [Nat.zero_add] at this
  exact this
theorem xw_accounts {post : Int32 → SX → Prop} (ms : Int32) (ac ae mt mc mf sd li wc sa pa : Nat → Int32) (fp : Nat → Int64) {th sp : Nat → Int32} (hok : yp_ok th mt sp) (hM : xw_M ms mf sd th sp) {l : List Nat} (hl8 : l.length ≤ 8) (hli : yw_CH li 0 l) (hld : ∀ a, a ∈ l → a < 6) {t s : Nat} (ht : t < 4) (hs : s < 32)
    (H : ∀ sa' pa' : Nat → Int32, post (if mp_hs l (mp_ws (yp_P ac ae th mt mc sp) (8 + t) s) then 1 else 0) (ms, nI l.length, ac, ae, mt, mc, mf, sd, li, wc, fp, sa', pa')) :
    wpX_accounts post (ms, nI l.length, ac, ae, mt, mc, mf, sd, li, wc, fp, sa, pa) (nI t) (nI s) := by
  have ok := yp_mok (co := ac) (ef := ae) (de := mc) hok
  unfold wpX_accounts
  dsimp only
  refine xw_isTask ht ?_
  refine br_f (by decide) ?_
  refine xw_isState hs ?_
  refine br_f (by decide) ?_
  refine xw_walk _ _ _ _ _ _ _ _ _ _ _ _ th sp hl8 hli hld hs (fun hn sa' => ?_) (fun e he he32 sa' hsa => ?_)
  · refine br_t rfl ?_
    have hno : ¬ mp_hs l (mp_ws (yp_P ac ae th mt mc sp) (8 + t) s) = true := by
      unfold mp_hs
      rw [List.any_eq_true]
      rintro ⟨⟨e, q⟩, h1, h2⟩
      have h3 : q = l := of_decide_eq_true h2
      have h4 := (mp_ws_good ok (by omega) (by omega) hs h1).2.2.2
      dsimp only at h4
      rw [h3, hn] at h4
      exact nomatch h4
    have := H sa' pa
    rw [if_neg hno] at this
    exact this
  · have hn1 : ¬ nI e = -1 := by
      intro h
      have h2 := nI_pos (n := e) (by omega)
      rw [h] at h2
      exact h2 (by decide)
    refine br_f hn1 ?_
    have hσ : mp_SG (yp_P ac ae th mt mc sp) l (mp_sg (yp_P ac ae th mt mc sp) l s) := ⟨fun i => mp_sg_lt ok l s i hs hld, fun i h => mp_sg_step _ l s e i he h⟩
    refine ⟨5, xw_p2 _ _ _ _ _ _ _ _ _ _ _ hok hM hσ hl8 hli hld hsa ?_ 4 5 3 pa (by omega) (by omega) rfl (fun u h1 h2 => by omega)⟩
    intro pa' hpa
    have e9 : nI t * 9 = nI (t * 9) := by
      rw [show (9 : Int32) = nI 9 from rfl, pk_mul]
    rw [e9, nI_clamp (by omega : t * 9 < 2 ^ 31)]
    refine ⟨vp_in_nI (by omega) (by decide), ?_⟩
    have hp := hpa t ht 0 (Nat.zero_le _) l.length (by omega)
    rw [mp_RPf, mp_sg_0, Nat.add_zero] at hp
    have hb := xw_bit (pa' (t * 9)) (m := l.length) (by omega)
    have HH := H sa' pa'
    refine br_c (fun z => ?_) (fun z => ?_)
    · have hno : ¬ mp_hs l (mp_ws (yp_P ac ae th mt mc sp) (8 + t) s) = true := by
        intro h
        have h1 := hp.mpr h
        rw [hb.mp z] at h1
        exact nomatch h1
      rw [if_neg hno] at HH
      exact HH
    · have hyes : mp_hs l (mp_ws (yp_P ac ae th mt mc sp) (8 + t) s) = true := by
        apply hp.mp
        cases e : bt (pa' (t * 9)) l.length
        · exact absurd (hb.mpr e) z
        · rfl
      rw [if_pos hyes] at HH
      exact HH
