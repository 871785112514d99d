theorem yw_task {post : Int32 → Prop} {u : SY} {t : Nat} (ht : t < 4) (h : post 1) : wpY_task post u (nI t) := by
  obtain ⟨wr, kn, md, op, st, ps, bs, co, ef, th, ta, de, sp, li, ch, ga, pl, be⟩ := u
  exact br_f (nI_pos (by omega)) (br_f (nI_nlt (a := 3) (b := t) (by omega) (by decide)) h)
theorem yw_isState {post : Int32 → Prop} {u : SY} {s : Nat} (hs : s < 32) (h : post 1) : wpY_isState post u (nI s) := by
  obtain ⟨wr, kn, md, op, st, ps, bs, co, ef, th, ta, de, sp, li, ch, ga, pl, be⟩ := u
  exact br_f (nI_pos (by omega)) (br_f (nI_nlt (a := 31) (b := s) (by omega) (by decide)) h)
theorem yw_countA {post : Int32 → SY → Prop} (wr kn md op st ps bs : Int32) (co ef th ta de sp li ch ga pl be : Nat → Int32) {t s : Nat} (ht : t < 4) (hs : s < 32) (hok : yp_ok th ta sp)
    (H : ∀ (kn md op st ps : Int32) (ch ga pl : Nat → Int32), post (nI (mp_ws (yp_P co ef th ta de sp) (8 + t) s).length) (wr, kn, md, op, st, ps, bs, co, ef, th, ta, de, sp, li, ch, ga, pl, be)) : wpY_count post (wr, kn, md, op, st, ps, bs, co, ef, th, ta, de, sp, li, ch, ga, pl, be) (nI t) (nI s) (-1) := by
  refine ⟨_, yw_count_a wr bs co ef th ta de sp li be ht hs hok _ _ 0 _ _ _ _ _ _ _ _ (Nat.lt_succ_self _) (yw_OM0 hok ht s ch) ?_⟩
  rw [Nat.zero_add]
  exact H
theorem yw_countE {post : Int32 → SY → Prop} (wr kn md op st ps bs : Int32) (co ef th ta de sp li ch ga pl be : Nat → Int32) {t s d : Nat} (ht : t < 4) (hs : s < 32) (hd : d < 32) (hok : yp_ok th ta sp)
    (H : ∀ (kn md op st ps : Int32) (ch ga pl : Nat → Int32), post (nI (mp_ct d (mp_ws (yp_P co ef th ta de sp) (8 + t) s))) (wr, kn, md, op, st, ps, bs, co, ef, th, ta, de, sp, li, ch, ga, pl, be)) : wpY_count post (wr, kn, md, op, st, ps, bs, co, ef, th, ta, de, sp, li, ch, ga, pl, be) (nI t) (nI s) (nI d) := by
  refine ⟨_, yw_count_e wr bs co ef th ta de sp li be ht hs hd hok _ _ 0 _ _ _ _ _ _ _ _ (Nat.lt_succ_self _) (yw_OM0 hok ht s ch) ?_⟩
  rw [Nat.zero_add]
  exact H
theorem yw_search {post : SY → Prop} (wr kn md op st ps bs : Int32) (co ef th ta de sp li ch ga pl be : Nat → Int32) {t s d : Nat} (ht : t < 4) (hs : s < 32) (hd : d < 32) (hok : yp_ok th ta sp) (hdg : ∀ x, x ∈ mp_ws (yp_P co ef th ta de sp) (8 + t) s → ∀ a, a ∈ x.2 → a < 8)
    (H : ∀ (kn md op st ps : Int32) (ch ga pl be : Nat → Int32), yw_BE be (mp_be d none (mp_ws (yp_P co ef th ta de sp) (8 + t) s)) → post (wr, kn, md, op, st, ps, mp_nS (mp_be d none (mp_ws (yp_P co ef th ta de sp) (8 + t) s)), co, ef, th, ta, de, sp, li, ch, ga, pl, be)) : wpY_search post (wr, kn, md, op, st, ps, bs, co, ef, th, ta, de, sp, li, ch, ga, pl, be) (nI t) (nI s) (nI d) :=
  ⟨_, yw_search10 wr co ef th ta de sp li ht hs hd hok _ _ none _ _ _ _ _ _ _ _ _ (Nat.lt_succ_self _) trivial hdg (yw_OM0 hok ht s ch) H⟩
/-- the list against a plan -/
theorem yw_acc57 {post : Int32 → SY → Prop} {J : Int32 → Int32 → Int32 → Int32 → Int32 → Int32 → Int32 → Int32 → (Nat → Int32) → (Nat → Int32) → (Nat → Int32) → (Nat → Int32) → (Nat → Int32) → (Nat → Int32) → (Nat → Int32) → (Nat → Int32) → (Nat → Int32) → (Nat → Int32) → (Nat → Int32) → Prop} {x1 x2 : Int32} (kn md op st ps bs : Int32) (co ef th ta de sp li ch ga pl be : Nat → Int32) {L : Nat} (hL : L ≤ 8) :
    ∀ (q l : List Nat) (i F : Nat), i + l.length = L → q.length = l.length → l.length < F → yw_CH pl i q → yw_CH li i l → (∀ a, a ∈ q → a < 8) → (∀ a, a ∈ l → a < 8) → J (if q = l then 1 else 0) (nI L) kn md op st ps bs co ef th ta de sp li ch ga pl be → wY_accounts_57 post J x1 x2 (nI L) kn md op st ps bs co ef th ta de sp li ch ga pl be F 1 (nI i) := by
  intro q
  induction q with
  | nil =>
    intro l i F h1 h2 hF _ _ _ _ H
    obtain ⟨F, rfl⟩ : ∃ n, F = n + 1 := ⟨F - 1, by omega⟩
    cases l with
    | nil =>
      have h1' : i + 0 = L := h1
      exact br_t (nI_le (by omega) (by omega)) H
    | cons b l => exact nomatch h2
  | cons a q ih =>
    intro l i F h1 h2 hF c1 c2 d1 d2 H
    cases l with
    | nil => exact nomatch h2
    | cons b l =>
      have h1' : i + (l.length + 1) = L := h1
      have h2' : q.length + 1 = l.length + 1 := h2
      have hF' : l.length + 1 < F := hF
      obtain ⟨F, rfl⟩ : ∃ n, F = n + 1 := ⟨F - 1, by omega⟩
      have ha := d1 a List.mem_cons_self
      have hb := d2 b List.mem_cons_self
      refine br_f (nI_ge (by omega) (by omega)) (br_f (by decide) ⟨vp_in_nI (by omega) (by decide), vp_in_nI (by omega) (by decide), ?_⟩)
      rw [nI_clamp (by omega : i < 2 ^ 31), c1.1, c2.1]
      refine pk_eq a b (fun z => nm_r (nI_1 _) ?_) (fun z => nm_r (nI_1 _) ?_)
      · refine ih l (i + 1) F (by omega) (by omega) (by omega) c1.2 c2.2 (fun a h => d1 a (List.mem_cons_of_mem _ h)) (fun a h => d2 a (List.mem_cons_of_mem _ h)) ?_
        have e : (if a :: q = b :: l then (1 : Int32) else 0) = if q = l then 1 else 0 := by
          subst z
          by_cases y : q = l
          · rw [if_pos y, if_pos (by rw [y])]
          · rw [if_neg y, if_neg (fun h => by injection h with h1 h2; exact y h2)]
        rw [← e]
        exact H
      · obtain ⟨F, rfl⟩ : ∃ n, F = n + 1 := ⟨F - 1, by omega⟩
        rw [if_neg (fun h => by injection h with h1 h2; exact z h1)] at H
        exact br_c (fun _ => H) (fun _ => br_t rfl H)
def mp_hs (l : List Nat) (M : List (Nat × List Nat)) : Bool := M.any (fun x => decide (x.2 = l))
theorem yw_acc7 {post : Int32 → SY → Prop} (bs : Int32) (co ef th ta de sp li be : Nat → Int32) {t s : Nat} {l : List Nat} (ht : t < 4) (hs : s < 32) (hok : yp_ok th ta sp) (hl8 : l.length ≤ 8) (hli : yw_CH li 0 l) (hld : ∀ a, a ∈ l → a < 8) :
    ∀ (M : List (Nat × List Nat)) (F : Nat) (kn md op st ps : Int32) (ch ga pl : Nat → Int32), M.length + 1 < F → (∀ x, x ∈ M → ∀ a, a ∈ x.2 → a < 8) → yw_OM (yp_P co ef th ta de sp) t s M kn ch →
    (∀ (kn md op st ps : Int32) (ch ga pl : Nat → Int32), post (if mp_hs l M then 1 else 0) (nI l.length, kn, md, op, st, ps, bs, co, ef, th, ta, de, sp, li, ch, ga, pl, be)) →
    wY_accounts_7 post (nI t) (nI s) F 0 (nI l.length) kn md op st ps bs co ef th ta de sp li ch ga pl be := by
  intro M
  induction M with
  | nil =>
    intro F kn md op st ps ch ga pl hF hdg hM H
    obtain ⟨F, rfl⟩ : ∃ n, F = n + 1 := ⟨F - 1, by omega⟩
    rw [wY_accounts_7]
    refine yw_task ht ?_
    refine br_f (by decide) ?_
    refine yw_isState hs ?_
    refine br_f (by decide) (br_t rfl ?_)
    refine yw_next _ _ _ _ _ _ _ _ _ _ _ _ _ _ _ _ _ _ ht hs hok hM (fun _ kn md op st ps ch ga pl => ?_) (fun e q M' h => nomatch h)
    exact br_t rfl ⟨rfl, H _ _ _ _ _ _ _ _⟩
  | cons x M ih =>
    intro F kn md op st ps ch ga pl hF hdg hM H
    have hl : (x :: M).length = M.length + 1 := rfl
    obtain ⟨F, rfl⟩ : ∃ n, F = n + 1 := ⟨F - 1, by omega⟩
    rw [wY_accounts_7]
    refine yw_task ht ?_
    refine br_f (by decide) ?_
    refine yw_isState hs ?_
    refine br_f (by decide) (br_t rfl ?_)
    refine yw_next _ _ _ _ _ _ _ _ _ _ _ _ _ _ _ _ _ _ ht hs hok hM (fun h => nomatch h) ?_
    intro e q M' h he hq kn md op ch ga pl hM' hpl
    injection h with h1 h2
    subst h1 h2
    have hdq := hdg (e, q) List.mem_cons_self
    have hdM : ∀ x, x ∈ M → ∀ a, a ∈ x.2 → a < 8 := fun x hx => hdg x (List.mem_cons_of_mem _ hx)
    have keep : q ≠ l → wY_accounts_7 post (nI t) (nI s) F 0 (nI l.length) kn md op (nI e) (nI q.length) bs co ef th ta de sp li ch ga pl be := by
      intro hno
      refine ih F _ _ _ _ _ _ _ _ (by omega) hdM hM' ?_
      intro kn md op st ps ch ga pl
      have := H kn md op st ps ch ga pl
      have e2 : mp_hs l ((e, q) :: M) = mp_hs l M := by
        show (decide (q = l) || _) = _
        rw [decide_eq_false hno]
        rfl
      rw [e2] at this
      exact this
    refine br_f (by decide) (pk_eq q.length l.length (fun z => ?_) (fun z => ?_))
    · refine ⟨l.length + 1, yw_acc57 _ _ _ _ _ _ _ _ _ _ _ _ _ _ _ _ _ hl8 q l 0 _ (by omega) z (by omega) hpl hli hdq hld ?_⟩
      by_cases y : q = l
      · rw [if_pos y]
        obtain ⟨F, rfl⟩ : ∃ n, F = n + 1 := ⟨F - 1, by omega⟩
        rw [wY_accounts_7]
        refine yw_task ht ?_
        refine br_f (by decide) ?_
        refine yw_isState hs ?_
        refine br_f (by decide) (br_f (by decide) ⟨rfl, ?_⟩)
        have := H kn md op (nI e) (nI q.length) ch ga pl
        have e2 : mp_hs l ((e, q) :: M) = true := by
          show (decide (q = l) || _) = _
          rw [decide_eq_true y]
          rfl
        rw [e2] at this
        exact this
      · rw [if_neg y]
        exact keep y
    · have y : q ≠ l := fun h => z (by rw [h])
      refine ⟨1, br_c (fun _ => keep y) (fun _ => br_t rfl (keep y))⟩
/-- sets of bits -/
def mp_dz (b : Nat → Bool) : Nat → Nat → Int32 → Int32
  | 0, _, a => a
  | k + 1, c, a => mp_dz b k (c + 1) (if b c then a ||| ((1 : Int32) <<< (nI c &&& 31)) else a)
def mp_ne {α : Type} : List α → Bool
  | [] => false
  | _ :: _ => true
theorem yw_doable4 {post : Int32 → SY → Prop} (wr bs : Int32) (co ef th ta de sp li be : Nat → Int32) {s : Nat} (hs : s < 32) (hok : yp_ok th ta sp) :
    ∀ (k t F : Nat) (a kn md op st ps : Int32) (ch ga pl : Nat → Int32), t + k = 4 → k < F →
    (∀ (kn md op st ps : Int32) (ch ga pl : Nat → Int32), post (mp_dz (fun t => mp_ne (mp_ws (yp_P co ef th ta de sp) (8 + t) s)) k t a) (wr, kn, md, op, st, ps, bs, co, ef, th, ta, de, sp, li, ch, ga, pl, be)) →
    wY_doable_4 post (nI s) F a (nI t) wr kn md op st ps bs co ef th ta de sp li ch ga pl be := by
  intro k
  induction k with
  | zero =>
    intro t F a kn md op st ps ch ga pl h1 hF H
    obtain ⟨F, rfl⟩ : ∃ n, F = n + 1 := ⟨F - 1, by omega⟩
    refine br_t (nI_le (a := 4) (by omega) (by omega)) ?_
    exact yw_isState hs (br_f (by decide) (H _ _ _ _ _ _ _ _))
  | succ k ih =>
    intro t F a kn md op st ps ch ga pl h1 hF H
    obtain ⟨F, rfl⟩ : ∃ n, F = n + 1 := ⟨F - 1, by omega⟩
    refine br_f (nI_ge (b := 4) (by omega) (by decide)) ?_
    refine yw_isState hs (br_f (by decide) ?_)
    refine yw_next _ _ _ _ _ _ _ _ _ _ _ _ _ _ _ _ _ _ (by omega) hs hok (yw_OM0 hok (by omega) s ch) (fun h kn md op st ps ch ga pl => ?_) (fun e q M' h he hq kn md op ch ga pl hM' hpl => ?_)
    · refine br_t rfl (nm_r (nI_1 _) (ih (t + 1) F a _ _ _ _ _ _ _ _ (by omega) (by omega) ?_))
      intro kn md op st ps ch ga pl
      have := H kn md op st ps ch ga pl
      unfold mp_dz at this
      rw [h] at this
      exact this
    · refine br_f (by decide) (nm_e (nm_r (nI_1 _) (ih (t + 1) F _ _ _ _ _ _ _ _ _ (by omega) (by omega) ?_)))
      intro kn md op st ps ch ga pl
      have := H kn md op st ps ch ga pl
      unfold mp_dz at this
      rw [h] at this
      exact this
theorem yw_methods4 {post : Int32 → Prop} (wr kn md op st ps bs : Int32) (co ef th ta de sp li ch ga pl be : Nat → Int32) : ∀ (k m F : Nat) (a : Int32), m + k = 8 → k < F → post (mp_dz (fun m => decide (¬ th m = 0)) k m a) → wY_methods_4 post wr kn md op st ps bs co ef th ta de sp li ch ga pl be F a (nI m) := by
  intro k
  induction k with
  | zero =>
    intro m F a h1 hF H
    obtain ⟨F, rfl⟩ : ∃ n, F = n + 1 := ⟨F - 1, by omega⟩
    exact br_t (nI_le (a := 8) (by omega) (by omega)) H
  | succ k ih =>
    intro m F a h1 hF H
    obtain ⟨F, rfl⟩ : ∃ n, F = n + 1 := ⟨F - 1, by omega⟩
    refine br_f (nI_ge (b := 8) (by omega) (by decide)) ⟨vp_in_nI (by omega) (by decide), ?_⟩
    rw [nI_clamp (by omega : m < 2 ^ 31)]
    unfold mp_dz at H
    refine br_c (fun z => nm_r (nI_1 _) (ih (m + 1) F a (by omega) (by omega) ?_)) (fun z => nm_e (nm_r (nI_1 _) (ih (m + 1) F _ (by omega) (by omega) ?_)))
    · rw [decide_eq_false (fun h => h z)] at H
      exact H
    · rw [decide_eq_true z] at H
      exact H
/-- doing the list -/
def mp_run (P : mp_PB) : List Nat → Nat → Option Nat
  | [], s => some s
  | a :: l, s => if mp_hol P a s then mp_run P l (mp_out P a s) else none
theorem yw_after16 {post : Int32 → Prop} (kn md op st ps bs : Int32) (co ef th ta de sp li ch ga pl be : Nat → Int32) {L : Nat} (hL : L ≤ 8) : ∀ (l : List Nat) (i F s : Nat), i + l.length = L → l.length + 1 < F → yw_CH li i l → (∀ a, a ∈ l → a < 6) → s < 32 →
    post (mp_nO (mp_run (yp_P co ef th ta de sp) l s)) → wY_after_16 post (nI L) kn md op st ps bs co ef th ta de sp li ch ga pl be F (nI s) (nI i) := by
  intro l
  induction l with
  | nil =>
    intro i F s h1 hF _ _ _ H
    obtain ⟨F, rfl⟩ : ∃ n, F = n + 1 := ⟨F - 1, by omega⟩
    have h1' : i + 0 = L := h1
    exact br_t (nI_le (by omega) (by omega)) H
  | cons a l ih =>
    intro i F s h1 hF c1 d1 hs H
    have h1' : i + (l.length + 1) = L := h1
    have hF' : l.length + 1 + 1 < F := hF
    obtain ⟨F, rfl⟩ : ∃ n, F = n + 1 := ⟨F - 1, by omega⟩
    have ha := d1 a List.mem_cons_self
    have hin : vp_in (nI i) 8 := vp_in_nI (by omega) (by decide)
    refine br_f (nI_ge (by omega) (by omega)) (br_f (nI_pos (by omega)) ⟨hin, ?_⟩)
    rw [nI_clamp (by omega : i < 2 ^ 31), c1.1]
    refine ⟨vp_in_nI ha (by decide), ?_⟩
    rw [nI_clamp (by omega : a < 2 ^ 31)]
    apply yw_holds
    have e : mp_run (yp_P co ef th ta de sp) (a :: l) s = if yp_hI (co a) s then mp_run (yp_P co ef th ta de sp) l (yp_chg (ef a) s) else none := rfl
    rw [e] at H
    by_cases x : yp_hI (co a) s = true
    · rw [if_pos x] at H ⊢
      refine br_f (by decide) ⟨hin, ?_⟩
      refine yw_changed _ _ _ _ _ _ _ _ _ _ _ _ _ _ _ _ _ _ ha hs (nm_r (nI_1 _) ?_)
      exact ih (i + 1) F _ (by omega) (by omega) c1.2 (fun a h => d1 a (List.mem_cons_of_mem _ h)) (yp_ex_eq _ hs).2 H
    · rw [if_neg x] at H ⊢
      refine br_t rfl (nm_e ?_)
      obtain ⟨F, rfl⟩ : ∃ n, F = n + 1 := ⟨F - 1, by omega⟩
      exact br_c (fun _ => H) (fun _ => br_t (by decide) H)
theorem yw_n1 : vp_nar .boolean 1 = 1 := rfl
theorem yw_n0 : vp_nar .boolean 0 = 0 := rfl
theorem yw_updback {a : Nat → Int32} {m : Nat} {x : Int32} (h : a m = x) (y : Int32) : upd (upd a m y) m x = a := by
  funext j
  by_cases e : j = m
  · subst e
    rw [pk_us, h]
  · rw [pk_un e, pk_un e]
theorem yp_ok_upd0 {th ta sp : Nat → Int32} {m : Nat} (h : yp_ok th ta sp) : yp_ok (upd th m 0) ta sp := by
  intro i hi
  by_cases e : i = m
  · subst e
    rw [pk_us]
    exact ⟨Or.inl rfl, fun z => absurd rfl z⟩
  · rw [pk_un e]
    exact h i hi
def mp_sl (P P0 : mp_PB) (c : Nat) : Prop := (mp_ws P0 (8 + c / 32) (c % 32)).length = (mp_ws P (8 + c / 32) (c % 32)).length
theorem yw_useless25 {post : Int32 → SY → Prop} (wr bs : Int32) (co ef th ta de sp li be : Nat → Int32) {m : Nat} (hm : m < 8) (hok : yp_ok th ta sp) (h1 : th m = 1)
    (hb : ∀ t s, t < 4 → s < 32 → (mp_ws (yp_P co ef th ta de sp) (8 + t) s).length < 2 ^ 31 ∧ (mp_ws (yp_P co ef (upd th m 0) ta de sp) (8 + t) s).length < 2 ^ 31) :
    ∀ (k c F : Nat) (kn md op st ps : Int32) (ch ga pl : Nat → Int32), c + k = 128 → k + 1 < F →
    ((∀ i, c ≤ i → i < 128 → mp_sl (yp_P co ef th ta de sp) (yp_P co ef (upd th m 0) ta de sp) i) → ∀ (kn md op st ps : Int32) (ch ga pl : Nat → Int32), post 1 (wr, kn, md, op, st, ps, bs, co, ef, th, ta, de, sp, li, ch, ga, pl, be)) →
    ((∃ i, c ≤ i ∧ i < 128 ∧ ¬ mp_sl (yp_P co ef th ta de sp) (yp_P co ef (upd th m 0) ta de sp) i) → ∀ (kn md op st ps : Int32) (ch ga pl : Nat → Int32), post 0 (wr, kn, md, op, st, ps, bs, co, ef, th, ta, de, sp, li, ch, ga, pl, be)) →
    wY_useless_25 post (nI m) F 1 (nI c) wr kn md op st ps bs co ef th ta de sp li ch ga pl be := by
  intro k
  induction k with
  | zero =>
    intro c F kn md op st ps ch ga pl hc hF H1 H0
    obtain ⟨F, rfl⟩ : ∃ n, F = n + 1 := ⟨F - 1, by omega⟩
    exact br_t (nI_le (a := 128) (by omega) (by omega)) ⟨rfl, H1 (fun i _ _ => by omega) _ _ _ _ _ _ _ _⟩
  | succ k ih =>
    intro c F kn md op st ps ch ga pl hc hF H1 H0
    obtain ⟨F, rfl⟩ : ∃ n, F = n + 1 := ⟨F - 1, by omega⟩
    have e1 : nI c >>> ((5 : Int32) &&& 31) = nI (c / 32) := pk_shrN (by omega) _ 5 (by decide)
    have e2 : nI c &&& 31 = nI (c % 32) := pk_andN (by omega) 5 (by decide)
    have hin : vp_in (nI m) 8 := vp_in_nI hm (by decide)
    have hcl : (nI m).toNatClampNeg = m := nI_clamp (by omega)
    obtain ⟨b1, b2⟩ := hb (c / 32) (c % 32) (by omega) (by omega)
    refine br_f (nI_ge (b := 128) (by omega) (by decide)) (br_f (by decide) ?_)
    rw [e1, e2]
    refine yw_countA _ _ _ _ _ _ _ _ _ _ _ _ _ _ _ _ _ _ (by omega) (by omega) hok ?_
    intro kn md op st ps ch ga pl
    refine ⟨hin, ?_⟩
    rw [hcl, yw_n0]
    refine nm_e ?_
    refine yw_countA _ _ _ _ _ _ _ _ _ _ _ _ _ _ _ _ _ _ (by omega) (by omega) (yp_ok_upd0 hok) ?_
    intro kn md op st ps ch ga pl
    refine pk_eq _ _ (fun z => ⟨hin, ?_⟩) (fun z => ⟨hin, ?_⟩) rfl rfl b2 b1
    · rw [hcl, yw_n1, yw_updback h1]
      refine nm_e (nm_r (nI_1 _) (ih (c + 1) F _ _ _ _ _ _ _ _ (by omega) (by omega) (fun hall => H1 (fun i i1 i2 => ?_)) (fun hex => H0 ?_)))
      · by_cases y : i = c
        · subst y
          exact z
        · exact hall i (by omega) i2
      · obtain ⟨i, i1, i2, i3⟩ := hex
        exact ⟨i, by omega, i2, i3⟩
    · rw [hcl, yw_n1, yw_updback h1]
      refine nm_e (nm_r (nI_1 _) ?_)
      obtain ⟨F, rfl⟩ : ∃ n, F = n + 1 := ⟨F - 1, by omega⟩
      have hp := H0 ⟨c, Nat.le_refl c, by omega, z⟩ kn md op st ps ch ga pl
      exact br_c (fun _ => ⟨rfl, hp⟩) (fun _ => br_t rfl ⟨rfl, hp⟩)
