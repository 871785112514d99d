/-- the states at the places of the list -/
def mp_sg (P : mp_PB) : List Nat → Nat → Nat → Nat
  | [], s, _ => s
  | _ :: _, s, 0 => s
  | a :: l, s, i + 1 => mp_sg P l (mp_out P a s) i
theorem mp_sg_0 (P : mp_PB) : ∀ (l : List Nat) (s : Nat), mp_sg P l s 0 = s
  | [], _ => rfl
  | _ :: _, _ => rfl
theorem mp_sg_lt {P : mp_PB} (ok : mp_ok P) : ∀ (l : List Nat) (s i : Nat), s < 32 → (∀ a, a ∈ l → a < 6) → mp_sg P l s i < 32
  | [], _, _, hs, _ => hs
  | _ :: _, _, 0, hs, _ => hs
  | a :: l, s, i + 1, hs, h => mp_sg_lt ok l _ i (ok.1 a s (h a List.mem_cons_self) hs) (fun b hb => h b (List.mem_cons_of_mem _ hb))
theorem mp_sg_step (P : mp_PB) : ∀ (l : List Nat) (s e i : Nat), mp_run P l s = some e → ∀ h : i < l.length, mp_hol P l[i] (mp_sg P l s i) = true ∧ mp_sg P l s (i + 1) = mp_out P l[i] (mp_sg P l s i)
  | [], _, _, _, _, h => absurd h (Nat.not_lt_zero _)
  | a :: l, s, e, i, hr, h => by
    have hr' : (if mp_hol P a s then mp_run P l (mp_out P a s) else none) = some e := hr
    by_cases x : mp_hol P a s = true
    · rw [if_pos x] at hr'
      cases i with
      | zero => exact ⟨x, mp_sg_0 P l _⟩
      | succ i => exact mp_sg_step P l _ e i hr' (Nat.lt_of_succ_lt_succ h)
    · rw [if_neg x] at hr'
      exact nomatch hr'
def mp_RP (P : mp_PB) (l : List Nat) (σ : Nat → Nat) (v i j : Nat) : Prop := i ≤ j ∧ j ≤ l.length ∧ ∃ e q, (e, q) ∈ mp_ws P v (σ i) ∧ l.drop i = q ++ l.drop j
def mp_SG (P : mp_PB) (l : List Nat) (σ : Nat → Nat) : Prop := (∀ i, σ i < 32) ∧ ∀ i, ∀ h : i < l.length, mp_hol P l[i] (σ i) = true ∧ σ (i + 1) = mp_out P l[i] (σ i)
theorem mp_dl {l q : List Nat} {i j : Nat} (hi : i ≤ l.length) (hj : j ≤ l.length) (h : l.drop i = q ++ l.drop j) : i + q.length = j := by
  have e := congrArg List.length h
  rw [List.length_append, List.length_drop, List.length_drop] at e
  omega
theorem mp_sig {P : mp_PB} {l : List Nat} {σ : Nat → Nat} (hσ : mp_SG P l σ) : ∀ (p : List Nat) (i j : Nat), i ≤ l.length → j ≤ l.length → l.drop i = p ++ l.drop j → mp_run P p (σ i) = some (σ j)
  | [], i, j, hi, hj, h => by
    have := mp_dl hi hj h
    have e : j = i := by
      have : i + 0 = j := this
      omega
    rw [e]
    rfl
  | a :: p, i, j, hi, hj, h => by
    have hl := mp_dl hi hj h
    have hl' : i + (p.length + 1) = j := hl
    have hil : i < l.length := by omega
    rw [List.drop_eq_getElem_cons hil] at h
    have h' : l[i] :: l.drop (i + 1) = a :: (p ++ l.drop j) := h
    injection h' with h1 h2
    obtain ⟨g1, g2⟩ := hσ.2 i hil
    rw [h1] at g1 g2
    show (if mp_hol P a (σ i) then mp_run P p (mp_out P a (σ i)) else none) = _
    rw [if_pos g1, ← g2]
    exact mp_sig hσ p (i + 1) j (by omega) hj h2
theorem mp_RP0 {P : mp_PB} {l : List Nat} {σ : Nat → Nat} {i j : Nat} (hi : i ≤ l.length) : mp_RP P l σ 0 i j ↔ j = i := by
  constructor
  · rintro ⟨h1, h2, e, q, h3, h4⟩
    rw [mp_ws0, List.mem_singleton] at h3
    injection h3 with h5 h6
    have := mp_dl hi h2 h4
    rw [h6] at this
    have : i + 0 = j := this
    omega
  · intro h
    subst h
    exact ⟨Nat.le_refl _, hi, σ j, [], by rw [mp_ws0]; exact List.mem_singleton.mpr rfl, rfl⟩
theorem mp_RPa {P : mp_PB} {l : List Nat} {σ : Nat → Nat} (hσ : mp_SG P l σ) {a i j : Nat} (ha : a < 6) (hi : i ≤ l.length) : mp_RP P l σ (1 + a) i j ↔ (j = i + 1 ∧ ∃ h : i < l.length, l[i] = a) := by
  have ew : ∀ s, mp_ws P (1 + a) s = if mp_hol P a s then [(mp_out P a s, [a])] else [] := by
    intro s
    rw [mp_wsa _ s (by omega) (by omega)]
    have : 1 + a - 1 = a := by omega
    rw [this]
  constructor
  · rintro ⟨h1, h2, e, q, h3, h4⟩
    rw [ew] at h3
    by_cases x : mp_hol P a (σ i) = true
    · rw [if_pos x, List.mem_singleton] at h3
      injection h3 with h5 h6
      have hl := mp_dl hi h2 h4
      rw [h6] at hl h4
      have hl' : i + 1 = j := hl
      have hil : i < l.length := by omega
      rw [List.drop_eq_getElem_cons hil] at h4
      have h' : l[i] :: l.drop (i + 1) = a :: ([] ++ l.drop j) := h4
      injection h' with h7 h8
      exact ⟨by omega, hil, h7⟩
    · rw [if_neg x] at h3
      exact nomatch h3
  · rintro ⟨h1, h2, h3⟩
    subst h1
    obtain ⟨g1, g2⟩ := hσ.2 i h2
    rw [h3] at g1
    refine ⟨by omega, by omega, mp_out P a (σ i), [a], ?_, ?_⟩
    · rw [ew, if_pos g1]
      exact List.mem_singleton.mpr rfl
    · rw [List.drop_eq_getElem_cons h2, h3]
      rfl
theorem mp_RPt {P : mp_PB} (ok : mp_ok P) {l : List Nat} {σ : Nat → Nat} (hσ : mp_SG P l σ) {t i k : Nat} (ht : t < 4) (hi : i ≤ l.length) : mp_RP P l σ (8 + t) i k ↔ ∃ m, m < 8 ∧ mp_app P t m (σ i) = true ∧ ∃ j, i ≤ j ∧ j ≤ l.length ∧ mp_RP P l σ (mp_fs P m) i j ∧ mp_RP P l σ (mp_sn P m) j k := by
  constructor
  · rintro ⟨h1, h2, e, r, h3, h4⟩
    rw [mp_ws_t ok ht (hσ.1 i)] at h3
    obtain ⟨m, hm, ha, b, p, q, hb, g1, g2, g3⟩ := h3
    have hl := mp_dl hi h2 h4
    rw [g3, List.length_append] at hl
    rw [g3, List.append_assoc] at h4
    obtain ⟨k1, k2⟩ := ok.2 t m _ ht hm ha
    unfold mp_sv at k1 k2
    have hd : l.drop (i + p.length) = q ++ l.drop k := by
      rw [← List.drop_drop, h4, List.drop_left]
    have h5 : l.drop i = p ++ l.drop (i + p.length) := by
      rw [hd]
      exact h4
    have hrun := mp_sig hσ p i (i + p.length) hi (by omega) h5
    have hgood := (mp_ws_good ok (by omega) (by omega) (hσ.1 i) g1).2.2.2
    have hbe : b = σ (i + p.length) := by
      have := hgood.symm.trans hrun
      injection this
    refine ⟨m, hm, ha, i + p.length, by omega, by omega, ⟨by omega, by omega, b, p, g1, h5⟩, ⟨by omega, h2, e, q, ?_, hd⟩⟩
    rw [← hbe]
    exact g2
  · rintro ⟨m, hm, ha, j, h1, h2, ⟨h3, h4, b, p, g1, g2⟩, ⟨h5, h6, e, q, g3, g4⟩⟩
    obtain ⟨k1, k2⟩ := ok.2 t m _ ht hm ha
    unfold mp_sv at k1 k2
    have hrun := mp_sig hσ p i j hi h2 g2
    obtain ⟨hb, _, _, hgood⟩ := mp_ws_good ok (by omega) (by omega) (hσ.1 i) g1
    have hbe : b = σ j := by
      have := hgood.symm.trans hrun
      injection this
    refine ⟨by omega, h6, e, p ++ q, ?_, ?_⟩
    · rw [mp_ws_t ok ht (hσ.1 i)]
      refine ⟨m, hm, ha, b, p, q, hb, g1, ?_, rfl⟩
      rw [hbe]
      exact g3
    · rw [List.append_assoc, ← g4]
      exact g2
theorem mp_RPf {P : mp_PB} {l : List Nat} {σ : Nat → Nat} {v : Nat} : mp_RP P l σ v 0 l.length ↔ mp_hs l (mp_ws P v (σ 0)) = true := by
  unfold mp_hs
  rw [List.any_eq_true]
  constructor
  · rintro ⟨h1, h2, e, q, h3, h4⟩
    refine ⟨(e, q), h3, ?_⟩
    rw [List.drop_length, List.append_nil] at h4
    exact decide_eq_true h4.symm
  · rintro ⟨⟨e, q⟩, h1, h2⟩
    refine ⟨Nat.zero_le _, Nat.le_refl _, e, q, h1, ?_⟩
    rw [List.drop_length, List.append_nil]
    exact (of_decide_eq_true h2).symm
/-- sets of places -/
def xw_PS (x : Int32) (R : Nat → Prop) : Prop := ∀ j, j < 32 → (bt x j = true ↔ R j)
theorem xw_PS_0 {R : Nat → Prop} (h : ∀ j, ¬ R j) : xw_PS 0 R := by
  intro j _
  rw [b_0]
  exact ⟨fun z => (nomatch z), fun z => absurd z (h j)⟩
theorem xw_PS_1 {i : Nat} (hi : i < 32) {R : Nat → Prop} (h : ∀ j, R j ↔ j = i) : xw_PS ((1 : Int32) <<< (nI i &&& 31)) R := by
  intro j hj
  rw [xw_one hi hj, decide_eq_true_iff, h]
theorem xw_PS_or {x y : Int32} {R S T : Nat → Prop} (hx : xw_PS x R) (hy : xw_PS y S) (h : ∀ j, T j ↔ (R j ∨ S j)) : xw_PS (x ||| y) T := by
  intro j hj
  rw [b_or, Bool.or_eq_true, hx j hj, hy j hj, h]
theorem xw_PS_congr {x : Int32} {R S : Nat → Prop} (hx : xw_PS x R) (h : ∀ j, S j ↔ R j) : xw_PS x S := by
  intro j hj
  rw [hx j hj, h]
theorem xw_pstep {post : Int32 → Prop} (ms : Int32) (ac ae mt mc mf sd li wc sa pa : Nat → Int32) (fp : Nat → Int64) {P : mp_PB} {l : List Nat} {σ : Nat → Nat} (hσ : mp_SG P l σ) (hl8 : l.length ≤ 8) (hli : yw_CH li 0 l) (hld : ∀ a, a ∈ l → a < 6) {v i : Nat} (hv : v ≤ 11) (h7 : v ≠ 7) (hi : i ≤ l.length)
    (hpa : ∀ u, v = 8 + u → xw_PS (pa (u * 9 + i)) (mp_RP P l σ v i)) (H : ∀ x, xw_PS x (mp_RP P l σ v i) → post x) : wpX_placesAfterStep post (ms, nI l.length, ac, ae, mt, mc, mf, sd, li, wc, fp, sa, pa) (nI v) (nI i) := by
  refine pk_eq v 0 (fun z => ?_) (fun z => ?_)
  · subst z
    exact H _ (xw_PS_1 (by omega) (fun j => mp_RP0 hi))
  · refine pk_le 8 v (fun w => ?_) (fun w => ?_)
    · obtain ⟨u, rfl⟩ : ∃ u, v = 8 + u := ⟨v - 8, by omega⟩
      have e : (nI (8 + u) - 8) * 9 + nI i = nI (u * 9 + i) := by
        have e1 := pk_sub (a := 8 + u) (b := 8) (by omega)
        have e2 : 8 + u - 8 = u := by omega
        rw [e2] at e1
        have e3 : nI (8 + u) - 8 = nI u := e1
        rw [e3, show (9 : Int32) = nI 9 from rfl, pk_mul, nI_add]
      rw [e, nI_clamp (by omega : u * 9 + i < 2 ^ 31)]
      exact ⟨vp_in_nI (by omega) (by decide), H _ (hpa u rfl)⟩
    · obtain ⟨a, rfl⟩ : ∃ a, v = 1 + a := ⟨v - 1, by omega⟩
      have e1 : nI (1 + a) - 1 = nI a := by
        rw [Nat.add_comm, nI_pred]
      have none : (¬ ∃ h : i < l.length, l[i] = a) → post 0 := by
        intro hn
        refine H 0 (xw_PS_0 (fun j hj => ?_))
        rw [mp_RPa hσ (by omega) hi] at hj
        exact hn hj.2
      refine pk_le l.length i (fun y => ?_) (fun y => ⟨vp_in_nI (by omega) (by decide), ?_⟩)
      · exact br_t rfl (none (fun ⟨h, _⟩ => by omega))
      · have hat := yw_CH_at y hli
        rw [Nat.zero_add] at hat
        have hb := hld l[i] (List.getElem_mem y)
        rw [nI_clamp (by omega : i < 2 ^ 31), hat, e1]
        refine pk_eq l[i] a (fun x => ?_) (fun x => br_t rfl (none (fun ⟨h, g⟩ => x g)))
        refine br_f (by decide) ?_
        rw [nI_1]
        refine H _ (xw_PS_1 (by omega) (fun j => ?_))
        rw [mp_RPa hσ (by omega) hi]
        exact ⟨fun h => h.1, fun h => ⟨h, y, x⟩⟩
theorem xw_pmeth18 {post : Int32 → Prop} (ms : Int32) (ac ae mt mc mf sd li wc sa pa : Nat → Int32) (fp : Nat → Int64) {P : mp_PB} {l : List Nat} {σ : Nat → Nat} (hσ : mp_SG P l σ) (hl8 : l.length ≤ 8) (hli : yw_CH li 0 l) (hld : ∀ a, a ∈ l → a < 6) {m v1 v2 i : Nat} (hm : m < 8) (hv : v2 ≤ 11) (h7 : v2 ≠ 7) (hsd : sd m = nI v2)
    (hpa : ∀ u, v2 = 8 + u → ∀ i, i ≤ l.length → xw_PS (pa (u * 9 + i)) (mp_RP P l σ v2 i)) {x3 : Int32} (hx3 : xw_PS x3 (mp_RP P l σ v1 i))
    (H : ∀ x, xw_PS x (fun k => ∃ j, i ≤ j ∧ j ≤ l.length ∧ mp_RP P l σ v1 i j ∧ mp_RP P l σ v2 j k) → post x) :
    ∀ (n j F : Nat) (x4 : Int32), j + n = l.length + 1 → n < F → i ≤ j → xw_PS x4 (fun k => ∃ j', i ≤ j' ∧ j' < j ∧ mp_RP P l σ v1 i j' ∧ mp_RP P l σ v2 j' k) → wX_placesAfterMethod_18 post (nI m) x3 ms (nI l.length) ac ae mt mc mf sd li wc fp sa pa F x4 (nI j) := by
  intro n
  induction n with
  | zero =>
    intro j F x4 hj hF hij hx
    obtain ⟨F, rfl⟩ : ∃ n, F = n + 1 := ⟨F - 1, by omega⟩
    refine br_t (nI_lt (by omega) (by omega)) (H x4 (xw_PS_congr hx (fun k => ⟨?_, ?_⟩)))
    · rintro ⟨j', g1, g2, g3⟩
      exact ⟨j', g1, by omega, g3⟩
    · rintro ⟨j', g1, g2, g3⟩
      exact ⟨j', g1, by omega, g3⟩
  | succ n ih =>
    intro j F x4 hj hF hij hx
    obtain ⟨F, rfl⟩ : ∃ n, F = n + 1 := ⟨F - 1, by omega⟩
    refine br_f (nI_nlt (by omega) (by omega)) ?_
    have hb := xw_bit x3 (m := j) (by omega)
    have hR := hx3 j (by omega)
    refine br_c (fun z => nm_r (nI_1 _) ?_) (fun z => ⟨vp_in_nI hm (by decide), ?_⟩)
    · have hn : ¬ mp_RP P l σ v1 i j := by
        intro h
        have h1 := hR.mpr h
        rw [hb.mp z] at h1
        exact nomatch h1
      refine ih (j + 1) F x4 (by omega) (by omega) (by omega) (xw_PS_congr hx (fun k => ⟨?_, ?_⟩))
      · rintro ⟨j', g1, g2, g3, g4⟩
        by_cases y : j' = j
        · subst y
          exact absurd g3 hn
        · exact ⟨j', g1, by omega, g3, g4⟩
      · rintro ⟨j', g1, g2, g3⟩
        exact ⟨j', g1, by omega, g3⟩
    · have hy : mp_RP P l σ v1 i j := by
        apply hR.mp
        cases e : bt x3 j
        · exact absurd (hb.mpr e) z
        · rfl
      rw [nI_clamp (by omega : m < 2 ^ 31), hsd]
      refine xw_pstep _ _ _ _ _ _ _ _ _ _ _ _ hσ hl8 hli hld hv h7 (by omega) (fun u hu => hpa u hu j (by omega)) ?_
      intro x hxs
      refine nm_e (nm_r (nI_1 _) (ih (j + 1) F _ (by omega) (by omega) (by omega) (xw_PS_or hx hxs (fun k => ⟨?_, ?_⟩))))
      · rintro ⟨j', g1, g2, g3, g4⟩
        by_cases y : j' = j
        · subst y
          exact Or.inr g4
        · exact Or.inl ⟨j', g1, by omega, g3, g4⟩
      · rintro (⟨j', g1, g2, g3⟩ | g)
        · exact ⟨j', g1, by omega, g3⟩
        · exact ⟨j, hij, by omega, hy, g⟩
theorem xw_pmeth {post : Int32 → Prop} (ms : Int32) (ac ae mt mc mf sd li wc sa pa : Nat → Int32) (fp : Nat → Int64) {P : mp_PB} {l : List Nat} {σ : Nat → Nat} (hσ : mp_SG P l σ) (hl8 : l.length ≤ 8) (hli : yw_CH li 0 l) (hld : ∀ a, a ∈ l → a < 6) {m v1 v2 i : Nat} (hm : m < 8) (hi : i ≤ l.length) (hv1 : v1 ≤ 11) (h71 : v1 ≠ 7) (hv : v2 ≤ 11) (h7 : v2 ≠ 7) (hmf : mf m = nI v1) (hsd : sd m = nI v2)
    (hpa1 : ∀ u, v1 = 8 + u → ∀ i, i ≤ l.length → xw_PS (pa (u * 9 + i)) (mp_RP P l σ v1 i)) (hpa : ∀ u, v2 = 8 + u → ∀ i, i ≤ l.length → xw_PS (pa (u * 9 + i)) (mp_RP P l σ v2 i))
    (H : ∀ x, xw_PS x (fun k => ∃ j, i ≤ j ∧ j ≤ l.length ∧ mp_RP P l σ v1 i j ∧ mp_RP P l σ v2 j k) → post x) : wpX_placesAfterMethod post (ms, nI l.length, ac, ae, mt, mc, mf, sd, li, wc, fp, sa, pa) (nI m) (nI i) := by
  refine ⟨vp_in_nI hm (by decide), ?_⟩
  rw [nI_clamp (by omega : m < 2 ^ 31), hmf]
  refine xw_pstep _ _ _ _ _ _ _ _ _ _ _ _ hσ hl8 hli hld hv1 h71 hi (fun u hu => hpa1 u hu i hi) ?_
  intro x hx
  refine ⟨l.length + 1 - i + 1, xw_pmeth18 _ _ _ _ _ _ _ _ _ _ _ _ hσ hl8 hli hld hm hv h7 hsd hpa hx H (l.length + 1 - i) i _ 0 (by omega) (by omega) (Nat.le_refl i) (xw_PS_0 ?_)⟩
  rintro k ⟨j', g1, g2, _⟩
  omega
