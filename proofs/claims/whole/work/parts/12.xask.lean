theorem xw_isTask {post : Int32 → Prop} {t : Nat} (ht : t < 4) (h : post 1) : wpX_isTask post (nI t) :=
  br_f (nI_pos (by omega)) (br_f (nI_ge (b := 4) ht (by decide)) h)
theorem xw_isState {post : Int32 → Prop} {s : Nat} (hs : s < 32) (h : post 1) : wpX_isState post (nI s) :=
  br_f (nI_pos (by omega)) (br_f (nI_ge (b := 32) hs (by decide)) h)
theorem xw_all31 {post : Int32 → Prop} (ms ll : Int32) (ac ae mt mc mf sd li wc sa pa : Nat → Int32) (fp : Nat → Int64) {P : mp_PB} {v s : Nat} (hv : v < 12) (hs : s < 32) (hA : xw_tv P v wc fp) (H : post (nI (mp_su (mp_cn P v s) 32))) :
    ∀ (k e F : Nat), e + k = 32 → k < F → wX_allWays_31 post (nI ((v * 32 + s) * 32)) ms ll ac ae mt mc mf sd li wc fp sa pa F (nI (mp_su (mp_cn P v s) e)) (nI e) := by
  intro k
  induction k with
  | zero =>
    intro e F he hF
    obtain ⟨F, rfl⟩ : ∃ n, F = n + 1 := ⟨F - 1, by omega⟩
    obtain rfl : e = 32 := by omega
    exact br_t (nI_le (a := 32) (by omega) (by omega)) H
  | succ k ih =>
    intro e F he hF
    obtain ⟨F, rfl⟩ : ∃ n, F = n + 1 := ⟨F - 1, by omega⟩
    refine br_f (nI_ge (b := 32) (by omega) (by decide)) ?_
    rw [nI_add, nI_clamp (by omega : (v * 32 + s) * 32 + e < 2 ^ 31), (hA s hs e (by omega)).1, nI_add]
    exact ⟨vp_in_nI (by omega) (by decide), nm_e (nm_r (nI_1 _) (ih (e + 1) F (by omega) (by omega)))⟩
theorem xw_next36 {post : Int32 → Prop} (ms ll : Int32) (ac ae mt mc mf sd li wc sa pa : Nat → Int32) (fp : Nat → Int64) {P : mp_PB} {v s d : Nat} (hv : v < 12) (hs : s < 32) (hA : xw_tv P v wc fp) (hb : ∀ e, mp_cn P v s e < 2 ^ 31)
    (h0 : (∀ i, d ≤ i → i < 32 → mp_cn P v s i = 0) → post (-1)) (h1 : ∀ i, d ≤ i → i < 32 → 0 < mp_cn P v s i → (∀ j, d ≤ j → j < i → mp_cn P v s j = 0) → post (nI i)) :
    ∀ (k e F : Nat), e + k = 32 → k < F → d ≤ e → (∀ j, d ≤ j → j < e → mp_cn P v s j = 0) → wX_nextEnd_36 post (nI ((v * 32 + s) * 32)) ms ll ac ae mt mc mf sd li wc fp sa pa F (nI e) := by
  intro k
  induction k with
  | zero =>
    intro e F he hF hd hz
    obtain ⟨F, rfl⟩ : ∃ n, F = n + 1 := ⟨F - 1, by omega⟩
    obtain rfl : e = 32 := by omega
    exact br_t (nI_le (a := 32) (by omega) (by omega)) (h0 hz)
  | succ k ih =>
    intro e F he hF hd hz
    obtain ⟨F, rfl⟩ : ∃ n, F = n + 1 := ⟨F - 1, by omega⟩
    refine br_f (nI_ge (b := 32) (by omega) (by decide)) ?_
    rw [nI_add, nI_clamp (by omega : (v * 32 + s) * 32 + e < 2 ^ 31), (hA s hs e (by omega)).1]
    refine ⟨vp_in_nI (by omega) (by decide), pk_le (mp_cn P v s e) 0 (fun z => nm_r (nI_1 _) (ih (e + 1) F (by omega) (by omega) (by omega) (fun j j1 j2 => ?_))) (fun z => h1 e hd (by omega) z hz) rfl rfl (hb e)⟩
    by_cases y : j = e
    · subst y
      omega
    · exact hz j j1 (by omega)
theorem mp_ne_iff {P : mp_PB} (ok : mp_ok P) {v s : Nat} (hv : v ≤ 11) (h7 : v ≠ 7) (hs : s < 32) : mp_ne (mp_ws P v s) = true ↔ ∃ e, e < 32 ∧ 0 < mp_cn P v s e := by
  constructor
  · intro h
    cases e : mp_ws P v s with
    | nil =>
      rw [e] at h
      exact nomatch h
    | cons x L =>
      have hx : x ∈ mp_ws P v s := by rw [e]; exact List.mem_cons_self
      refine ⟨x.1, (mp_ws_good ok hv h7 hs hx).1, mp_ct_pos.mpr ⟨x.2, hx⟩⟩
  · rintro ⟨e, _, h⟩
    obtain ⟨q, hq⟩ := mp_ct_pos.mp h
    cases e : mp_ws P v s with
    | nil =>
      rw [e] at hq
      exact nomatch hq
    | cons x L => rfl
theorem xw_way9 {post : Int32 → Prop} (ms ll : Int32) (ac ae mt mc mf sd li wc sa pa : Nat → Int32) (fp : Nat → Int64) {P : mp_PB} {v s : Nat} (hv : v < 12) (hs : s < 32) (hA : xw_tv P v wc fp) (hb : ∀ e, mp_cn P v s e < 2 ^ 31)
    (h0 : (∀ i, i < 32 → mp_cn P v s i = 0) → post 0) (h1 : (∃ i, i < 32 ∧ 0 < mp_cn P v s i) → post 1) :
    ∀ (k e F : Nat), e + k = 32 → k < F → (∀ j, j < e → mp_cn P v s j = 0) → wX_hasWay_9 post (nI ((v * 32 + s) * 32)) ms ll ac ae mt mc mf sd li wc fp sa pa F (nI e) := by
  intro k
  induction k with
  | zero =>
    intro e F he hF hz
    obtain ⟨F, rfl⟩ : ∃ n, F = n + 1 := ⟨F - 1, by omega⟩
    obtain rfl : e = 32 := by omega
    exact br_t (nI_le (a := 32) (by omega) (by omega)) (h0 hz)
  | succ k ih =>
    intro e F he hF hz
    obtain ⟨F, rfl⟩ : ∃ n, F = n + 1 := ⟨F - 1, by omega⟩
    refine br_f (nI_ge (b := 32) (by omega) (by decide)) ?_
    rw [nI_add, nI_clamp (by omega : (v * 32 + s) * 32 + e < 2 ^ 31), (hA s hs e (by omega)).1]
    refine ⟨vp_in_nI (by omega) (by decide), pk_le (mp_cn P v s e) 0 (fun z => nm_r (nI_1 _) (ih (e + 1) F (by omega) (by omega) (fun j j2 => ?_))) (fun z => h1 ⟨e, by omega, z⟩) rfl rfl (hb e)⟩
    by_cases y : j = e
    · subst y
      omega
    · exact hz j (by omega)
theorem xw_hasWay {post : Int32 → Prop} (ms ll : Int32) (ac ae mt mc mf sd li wc sa pa : Nat → Int32) (fp : Nat → Int64) {P : mp_PB} (ok : mp_ok P) {v s : Nat} (hv : v ≤ 11) (h7 : v ≠ 7) (hs : s < 32) (hA : xw_tv P v wc fp) (hb : ∀ e, mp_cn P v s e < 2 ^ 31)
    (h : post (if mp_ne (mp_ws P v s) then 1 else 0)) : wpX_hasWay post (ms, ll, ac, ae, mt, mc, mf, sd, li, wc, fp, sa, pa) (nI v) (nI s) := by
  have hne := mp_ne_iff ok hv h7 hs
  show wpX_rowOf (fun r_1 => ∃ n9 : Nat, wX_hasWay_9 post r_1 ms ll ac ae mt mc mf sd li wc fp sa pa n9 0) (nI v) (nI s)
  refine xw_rowOf ?_
  refine ⟨33, xw_way9 _ _ _ _ _ _ _ _ _ _ _ _ _ (by omega) hs hA hb (fun hz => ?_) (fun hz => ?_) 32 0 33 (by omega) (by omega) (fun j hj => by omega)⟩
  · have : ¬ mp_ne (mp_ws P v s) = true := by
      rw [hne]
      rintro ⟨e, h1, h2⟩
      rw [hz e h1] at h2
      exact absurd h2 (Nat.lt_irrefl 0)
    rw [if_neg this] at h
    exact h
  · rw [if_pos (hne.mpr hz)] at h
    exact h
theorem xw_doable13 {post : Int32 → Prop} (ms ll : Int32) (ac ae mt mc mf sd li wc sa pa : Nat → Int32) (fp : Nat → Int64) {P : mp_PB} (ok : mp_ok P) {s : Nat} (hs : s < 32) (hA : ∀ t, t < 4 → xw_tv P (8 + t) wc fp) (hb : ∀ v e, v ≤ 11 → mp_cn P v s e < 2 ^ 31) :
    ∀ (k t F : Nat) (a : Int32), t + k = 4 → k < F → post (mp_dz (fun t => mp_ne (mp_ws P (8 + t) s)) k t a) → wX_doable_13 post (nI s) ms ll ac ae mt mc mf sd li wc fp sa pa F a (nI t) := by
  intro k
  induction k with
  | zero =>
    intro t F a ht hF H
    obtain ⟨F, rfl⟩ : ∃ n, F = n + 1 := ⟨F - 1, by omega⟩
    exact br_t (nI_le (a := 4) (by omega) (by omega)) H
  | succ k ih =>
    intro t F a ht hF H
    obtain ⟨F, rfl⟩ : ∃ n, F = n + 1 := ⟨F - 1, by omega⟩
    refine br_f (nI_ge (b := 4) (by omega) (by decide)) ?_
    have e8 : (8 : Int32) + nI t = nI (8 + t) := nI_add 8 t
    rw [e8]
    refine xw_hasWay _ _ _ _ _ _ _ _ _ _ _ _ _ ok (by omega) (by omega) hs (hA t (by omega)) (fun e => hb _ e (by omega)) ?_
    unfold mp_dz at H
    cases z : mp_ne (mp_ws P (8 + t) s)
    · rw [z] at H
      exact br_t rfl (nm_r (nI_1 _) (ih (t + 1) F a (by omega) (by omega) H))
    · rw [z] at H
      exact br_f (by decide) (nm_e (nm_r (nI_1 _) (ih (t + 1) F _ (by omega) (by omega) H)))
theorem mp_mw_ne {P : mp_PB} (ok : mp_ok P) {t m s : Nat} (ht : t < 4) (hs : s < 32) (h1 : mp_sv t (mp_fs P m)) (h2 : mp_sv t (mp_sn P m)) : mp_mw P m s ≠ [] ↔ ∃ b, b < 32 ∧ 0 < mp_cn P (mp_fs P m) s b ∧ mp_ne (mp_ws P (mp_sn P m) b) = true := by
  have w1 := h1
  have w2 := h2
  unfold mp_sv at w1 w2
  constructor
  · intro h
    obtain ⟨x, hx⟩ := List.exists_mem_of_ne_nil _ h
    unfold mp_mw at hx
    rw [mp_pr_mem] at hx
    obtain ⟨b, p, q, g1, g2, g3⟩ := hx
    have hb := (mp_ws_good ok (by omega) (by omega) hs g1).1
    refine ⟨b, hb, mp_ct_pos.mpr ⟨p, g1⟩, ?_⟩
    rw [mp_ne_iff ok (by omega) (by omega) hb]
    exact ⟨x.1, (mp_ws_good ok (by omega) (by omega) hb g2).1, mp_ct_pos.mpr ⟨q, g2⟩⟩
  · rintro ⟨b, hb, g1, g2⟩
    obtain ⟨p, hp⟩ := mp_ct_pos.mp g1
    rw [mp_ne_iff ok (by omega) (by omega) hb] at g2
    obtain ⟨e, he, g3⟩ := g2
    obtain ⟨q, hq⟩ := mp_ct_pos.mp g3
    have : (e, p ++ q) ∈ mp_mw P m s := by
      unfold mp_mw
      rw [mp_pr_mem]
      exact ⟨b, p, q, hp, hq, rfl⟩
    exact List.ne_nil_of_mem this
theorem xw_works29 {post : Int32 → Prop} (ms ll : Int32) (ac ae mt mc mf sd li wc sa pa : Nat → Int32) (fp : Nat → Int64) {P : mp_PB} (ok : mp_ok P) {t m s : Nat} (ht : t < 4) (hm : m < 8) (hs : s < 32) (k1 : mp_sv t (mp_fs P m)) (k2 : mp_sv t (mp_sn P m)) (hsd : sd m = nI (mp_sn P m)) (hA : ∀ v, v ≤ 11 → v ≠ 7 → xw_tv P v wc fp) (hb : ∀ v s e, v ≤ 11 → s < 32 → mp_cn P v s e < 2 ^ 31)
    (h0 : mp_mw P m s = [] → post 0) (h1 : mp_mw P m s ≠ [] → post 1) :
    ∀ (k b F : Nat), b + k = 32 → k < F → (∀ j, j < b → ¬ (0 < mp_cn P (mp_fs P m) s j ∧ mp_ne (mp_ws P (mp_sn P m) j) = true)) → wX_worksOut_29 post (nI m) (nI ((mp_fs P m * 32 + s) * 32)) ms ll ac ae mt mc mf sd li wc fp sa pa F (nI b) := by
  have k1' := k1
  have k2' := k2
  unfold mp_sv at k1 k2
  intro k
  induction k with
  | zero =>
    intro b F he hF hz
    obtain ⟨F, rfl⟩ : ∃ n, F = n + 1 := ⟨F - 1, by omega⟩
    obtain rfl : b = 32 := by omega
    refine br_t (nI_le (a := 32) (by omega) (by omega)) (h0 ?_)
    apply Classical.byContradiction
    intro h
    obtain ⟨b, g1, g2⟩ := (mp_mw_ne ok ht hs k1' k2').mp h
    exact hz b g1 g2
  | succ k ih =>
    intro b F he hF hz
    obtain ⟨F, rfl⟩ : ∃ n, F = n + 1 := ⟨F - 1, by omega⟩
    have go : ¬ (0 < mp_cn P (mp_fs P m) s b ∧ mp_ne (mp_ws P (mp_sn P m) b) = true) → wX_worksOut_29 post (nI m) (nI ((mp_fs P m * 32 + s) * 32)) ms ll ac ae mt mc mf sd li wc fp sa pa F (nI (b + 1)) := by
      intro hn
      refine ih (b + 1) F (by omega) (by omega) (fun j hj => ?_)
      by_cases y : j = b
      · subst y
        exact hn
      · exact hz j (by omega)
    refine br_f (nI_ge (b := 32) (by omega) (by decide)) ?_
    rw [nI_add, nI_clamp (by omega : (mp_fs P m * 32 + s) * 32 + b < 2 ^ 31), (hA _ (by omega) (by omega) s hs b (by omega)).1]
    refine ⟨vp_in_nI (by omega) (by decide), pk_le (mp_cn P (mp_fs P m) s b) 0 (fun z => nm_r (nI_1 _) (go (fun h => by omega))) (fun z => ⟨vp_in_nI hm (by decide), ?_⟩) rfl rfl (hb _ _ _ (by omega) hs)⟩
    rw [nI_clamp (by omega : m < 2 ^ 31), hsd]
    refine xw_hasWay _ _ _ _ _ _ _ _ _ _ _ _ _ ok (by omega) (by omega) (by omega) (hA _ (by omega) (by omega)) (fun e => hb _ _ e (by omega) (by omega)) ?_
    by_cases y : mp_ne (mp_ws P (mp_sn P m) b) = true
    · rw [if_pos y]
      exact br_f (by decide) (h1 ((mp_mw_ne ok ht hs k1' k2').mpr ⟨b, by omega, z, y⟩))
    · rw [if_neg y]
      exact br_t rfl (nm_r (nI_1 _) (go (fun h => y h.2)))
theorem xw_useless12 {post : Int32 → Prop} (ms ll : Int32) (ac ae mt mc mf sd li wc sa pa : Nat → Int32) (fp : Nat → Int64) {th sp : Nat → Int32} (hok : yp_ok th mt sp) (hM : xw_M ms mf sd th sp) {t m : Nat} (ht : t < 4) (hm : m < 8) (hth : ¬ th m = 0) (hmt : mt m = nI t) (hA : ∀ v, v ≤ 11 → v ≠ 7 → xw_tv (yp_P ac ae th mt mc sp) v wc fp)
    (h1 : (∀ s, s < 32 → mp_app (yp_P ac ae th mt mc sp) t m s = true → mp_mw (yp_P ac ae th mt mc sp) m s = []) → post 1)
    (h0 : ¬ (∀ s, s < 32 → mp_app (yp_P ac ae th mt mc sp) t m s = true → mp_mw (yp_P ac ae th mt mc sp) m s = []) → post 0) :
    ∀ (k s F : Nat), s + k = 32 → k < F → (∀ i, i < s → mp_app (yp_P ac ae th mt mc sp) t m i = true → mp_mw (yp_P ac ae th mt mc sp) m i = []) → wX_useless_12 post (nI m) ms ll ac ae mt mc mf sd li wc fp sa pa F (nI s) := by
  have ok := yp_mok (co := ac) (ef := ae) (de := mc) hok
  intro k
  induction k with
  | zero =>
    intro s F hs hF hz
    obtain ⟨F, rfl⟩ : ∃ n, F = n + 1 := ⟨F - 1, by omega⟩
    obtain rfl : s = 32 := by omega
    exact br_t (nI_le (a := 32) (by omega) (by omega)) (h1 hz)
  | succ k ih =>
    intro s F hs hF hz
    obtain ⟨F, rfl⟩ : ∃ n, F = n + 1 := ⟨F - 1, by omega⟩
    have hs32 : s < 32 := by omega
    have hin : vp_in (nI m) 8 := vp_in_nI hm (by decide)
    have hcl : (nI m).toNatClampNeg = m := nI_clamp (by omega)
    have go : (mp_app (yp_P ac ae th mt mc sp) t m s = true → mp_mw (yp_P ac ae th mt mc sp) m s = []) → wX_useless_12 post (nI m) ms ll ac ae mt mc mf sd li wc fp sa pa F (nI (s + 1)) := by
      intro hn
      refine ih (s + 1) F (by omega) (by omega) (fun j hj => ?_)
      by_cases y : j = s
      · subst y
        exact hn
      · exact hz j (by omega)
    refine br_f (nI_ge (b := 32) (by omega) (by decide)) ⟨hin, ?_⟩
    rw [hcl]
    apply xw_holds
    by_cases x : yp_hI (mc m) s = true
    · rw [if_pos x]
      have ha : mp_app (yp_P ac ae th mt mc sp) t m s = true := yp_app.mpr ⟨hth, hmt, x⟩
      obtain ⟨k1, k2⟩ := ok.2 t m s ht hm ha
      obtain ⟨t', kk, ht', e1, hkk, e2, s1, s2⟩ := (hok m hm).2 hth
      obtain ⟨m1, m2⟩ := hM.2 m hm hth
      have ef := yp_fs (co := ac) (ef := ae) (th := th) (ta := mt) (de := mc) e2 hkk
      have es := yp_sn (co := ac) (ef := ae) (th := th) (ta := mt) (de := mc) e2 hkk
      have hmf : mf m = nI (mp_fs (yp_P ac ae th mt mc sp) m) := by rw [m1, ef.2, ef.1]
      have hsd : sd m = nI (mp_sn (yp_P ac ae th mt mc sp) m) := by rw [m2, es.2, es.1]
      refine br_f (by decide) ⟨hin, ?_⟩
      rw [hmf]
      refine xw_rowOf ⟨33, xw_works29 _ _ _ _ _ _ _ _ _ _ _ _ _ ok ht hm hs32 k1 k2 hsd hA ?_ ?_ ?_ 32 0 33 (by omega) (by omega) (fun j hj => by omega)⟩
      · intro v s e hv hs
        have := xw_cnb (ac := ac) (ae := ae) (mc := mc) hok (v := v) (s := s) e hv hs
        omega
      · intro hno
        exact br_t rfl (nm_r (nI_1 _) (go (fun _ => hno)))
      · intro hyes
        exact br_f (by decide) (h0 (fun h => hyes (h s hs32 ha)))
    · rw [if_neg x]
      refine br_t rfl ?_
      exact br_t rfl (nm_r (nI_1 _) (go (fun h => absurd (yp_app.mp h).2.2 x)))
