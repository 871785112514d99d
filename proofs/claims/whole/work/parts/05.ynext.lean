theorem yw_V0 (P : mp_PB) (t s : Nat) : mp_V P 40 [8 + t] s [] := by
  show (if 8 + t < 8 then _ else _)
  rw [if_neg (by omega)]
  trivial
theorem yw_sx4 : ∀ t, t < 4 → mp_sx [8 + t] ≤ 15 ∧ mp_sa [8 + t] ≤ 16 ∧ mp_sa [8 + t] + mp_sx [8 + t] < 40 := by decide
theorem yw_carryOut {post : Int32 → SY → Prop} (wr md op st ps bs : Int32) (co ef th ta de sp li ch ga pl be : Nat → Int32) {t s : Nat} {cs : List Nat} (ht : t < 4) (hs : s < 32) (hok : yp_ok th ta sp) (hcs : cs.length ≤ 15) (hch : yw_CH ch 0 cs) (hV : mp_V (yp_P co ef th ta de sp) 40 [8 + t] s cs)
    (H : ∀ (es : List Nat) (lf : Option (Nat × List Nat)) (op' st' ps' : Int32) (ch' ga' pl' : Nat → Int32),
      mp_R (yp_P co ef th ta de sp) 40 [8 + t] s [] cs = lf :: (if es = [] then [] else mp_R (yp_P co ef th ta de sp) 40 [8 + t] s [] (mp_inc es)) →
      (es ≠ [] → mp_V (yp_P co ef th ta de sp) 40 [8 + t] s (mp_inc es)) →
      yw_CH ch' 0 es → es.length ≤ 15 →
      (∀ e q, lf = some (e, q) → e < 32 ∧ st' = nI e ∧ ps' = nI q.length ∧ yw_CH pl' 0 q ∧ q.length ≤ 16) →
      (es = [] → lf = none) →
      post (if lf.isSome then 1 else 0) (wr, nI cs.length, nI es.length, op', st', ps', bs, co, ef, th, ta, de, sp, li, ch', ga', pl', be)) :
    wpY_carryOut post (wr, nI cs.length, md, op, st, ps, bs, co, ef, th, ta, de, sp, li, ch, ga, pl, be) (nI t) (nI s) := by
  unfold wpY_carryOut
  dsimp only
  have e8 : (8 : Int32) + nI t = nI (8 + t) := nI_add 8 t
  rw [e8]
  have hpu : mp_pu (8 + t) [] = [8 + t] := if_neg (by omega)
  obtain ⟨b1, b2, b3⟩ := yw_sx4 t ht
  refine yw_push (post := fun u => match u with | (wr, kn, md, op, st, ps, bs, co, ef, th, ta, de, sp, li, ch, ga, pl, be) => ∃ n30 : Nat, wY_carryOut_30 post n30 1 wr kn md op st ps bs co ef th ta de sp li ch ga pl be) (a := []) _ _ _ _ _ _ _ _ _ _ _ _ _ _ _ _ _ (by omega) (by decide) trivial ?_
  intro ga' hga'
  rw [hpu] at hga' ⊢
  refine ⟨41, yw_carry _ _ _ _ _ _ _ _ _ _ (K := cs.length) hcs hok 40 41 post [8 + t] s [] cs 0 ch ga' pl b3 (by omega) ?_ hs (by omega) (by show 0 + _ ≤ 16; omega) hga' trivial hch (by omega) (fun _ => by omega) hV ?_⟩
  · intro v hv
    rw [List.mem_singleton] at hv
    omega
  · intro es lf op' st' ps' ch' ga' pl' r1 r2 r3 r4 r5 r6 r7
    rw [Nat.zero_add]
    exact H es lf op' st' ps' ch' ga' pl' r1 r2 r3 (by omega) r6 (r7 (8 + t) [] rfl (by omega))
/-- the odometer has the ways M still to tell -/
def yw_OM (P : mp_PB) (t s : Nat) (M : List (Nat × List Nat)) (kn : Int32) (ch : Nat → Int32) : Prop :=
  (kn = -1 ∧ M = []) ∨ ∃ cs : List Nat, cs.length ≤ 15 ∧ kn = nI cs.length ∧ yw_CH ch 0 cs ∧ mp_V P 40 [8 + t] s cs ∧ M = (mp_R P 40 [8 + t] s [] cs).filterMap id
theorem yw_OM0 {co ef th ta de sp : Nat → Int32} (hok : yp_ok th ta sp) {t : Nat} (ht : t < 4) (s : Nat) (ch : Nat → Int32) : yw_OM (yp_P co ef th ta de sp) t s (mp_ws (yp_P co ef th ta de sp) (8 + t) s) 0 ch :=
  Or.inr ⟨[], Nat.zero_le _, rfl, trivial, yw_V0 _ t s, (mp_R_ws (yp_mok hok) ht s).symm⟩
theorem yw_next16 {post : Int32 → SY → Prop} (wr bs : Int32) (co ef th ta de sp li be : Nat → Int32) {t s : Nat} (ht : t < 4) (hs : s < 32) (hok : yp_ok th ta sp) :
    ∀ (N F : Nat) (cs : List Nat) (md op st ps : Int32) (ch ga pl : Nat → Int32),
    (mp_R (yp_P co ef th ta de sp) 40 [8 + t] s [] cs).length ≤ N → N < F → cs.length ≤ 15 → yw_CH ch 0 cs → mp_V (yp_P co ef th ta de sp) 40 [8 + t] s cs →
    ((mp_R (yp_P co ef th ta de sp) 40 [8 + t] s [] cs).filterMap id = [] → ∀ (kn md op st ps : Int32) (ch ga pl : Nat → Int32), post 0 (wr, kn, md, op, st, ps, bs, co, ef, th, ta, de, sp, li, ch, ga, pl, be)) →
    (∀ e q M', (mp_R (yp_P co ef th ta de sp) 40 [8 + t] s [] cs).filterMap id = (e, q) :: M' → e < 32 → q.length ≤ 16 → ∀ (kn md op : Int32) (ch ga pl : Nat → Int32), yw_OM (yp_P co ef th ta de sp) t s M' kn ch → yw_CH pl 0 q → post 1 (wr, kn, md, op, nI e, nI q.length, bs, co, ef, th, ta, de, sp, li, ch, ga, pl, be)) →
    wY_next_16 post (nI t) (nI s) F 0 1 wr (nI cs.length) md op st ps bs co ef th ta de sp li ch ga pl be := by
  intro N
  induction N with
  | zero =>
    intro F cs md op st ps ch ga pl hN hF hcs hch hV h0 h1
    obtain ⟨F, rfl⟩ : ∃ n, F = n + 1 := ⟨F - 1, by omega⟩
    refine br_f (by decide) (br_t rfl ?_)
    refine yw_carryOut _ _ _ _ _ _ _ _ _ _ _ _ _ _ _ _ _ ht hs hok hcs hch hV ?_
    intro es lf op' st' ps' ch' ga' pl' r1 r2 r3 r4 r5 r6
    rw [r1] at hN
    exact absurd hN (Nat.not_succ_le_zero _)
  | succ N ih =>
    intro F cs md op st ps ch ga pl hN hF hcs hch hV h0 h1
    obtain ⟨F, rfl⟩ : ∃ n, F = n + 1 := ⟨F - 1, by omega⟩
    obtain ⟨F, rfl⟩ : ∃ n, F = n + 1 := ⟨F - 1, by omega⟩
    refine br_f (by decide) (br_t rfl ?_)
    refine yw_carryOut _ _ _ _ _ _ _ _ _ _ _ _ _ _ _ _ _ ht hs hok hcs hch hV ?_
    intro es lf op' st' ps' ch' ga' pl' r1 r2 r3 r4 r5 r6
    rw [r1] at hN h0 h1
    by_cases z : es = []
    · have hl := r6 z
      subst z hl
      refine br_t (nI_le (Nat.le_refl 0) (by decide)) ?_
      refine br_t rfl ?_
      refine br_t rfl ?_
      exact br_t rfl ⟨rfl, h0 rfl _ _ _ _ _ _ _ _⟩
    · rw [if_neg z] at hN h0 h1
      have hpos : 0 < es.length := List.length_pos_iff.mpr z
      have e1 : nI es.length - 1 = nI (es.length - 1) := by
        obtain ⟨l, hl⟩ : ∃ l, es.length = l + 1 := ⟨es.length - 1, by omega⟩
        rw [hl, nI_pred]
        rfl
      have hin : vp_in (nI (es.length - 1)) 15 := vp_in_nI (by omega) (by decide)
      have hinc := yw_CH_inc z r3
      rw [Nat.zero_add] at hinc
      refine br_f (nI_nle hpos (by omega)) (br_f (by decide) ?_)
      rw [e1, nI_clamp (by omega : es.length - 1 < 2 ^ 31)]
      refine ⟨hin, hin, nm_e ?_⟩
      cases lf with
      | none =>
        have := ih (F + 1) (mp_inc es) (nI es.length) op' st' ps' _ ga' pl' (Nat.le_of_succ_le_succ hN) (by omega) (by rw [mp_inc_len]; exact r4) hinc (r2 z) h0 h1
        rw [mp_inc_len] at this
        exact this
      | some x =>
        obtain ⟨e, q⟩ := x
        obtain ⟨q1, q2, q3, q4, q5⟩ := r5 e q rfl
        subst q2 q3
        rw [show (if (some (e, q) : Option (Nat × List Nat)).isSome = true then (1 : Int32) else 0) = 1 from rfl]
        refine br_f (by decide) (br_f (by decide) ?_)
        refine br_f (by decide) ⟨rfl, ?_⟩
        refine h1 e q _ rfl q1 q5 _ _ _ _ _ _ (Or.inr ⟨mp_inc es, ?_, ?_, hinc, r2 z, rfl⟩) q4
        · rw [mp_inc_len]; exact r4
        · rw [mp_inc_len]
theorem yw_next {post : Int32 → SY → Prop} (wr kn md op st ps bs : Int32) (co ef th ta de sp li ch ga pl be : Nat → Int32) {t s : Nat} (ht : t < 4) (hs : s < 32) (hok : yp_ok th ta sp) {M : List (Nat × List Nat)} (hM : yw_OM (yp_P co ef th ta de sp) t s M kn ch)
    (h0 : M = [] → ∀ (kn md op st ps : Int32) (ch ga pl : Nat → Int32), post 0 (wr, kn, md, op, st, ps, bs, co, ef, th, ta, de, sp, li, ch, ga, pl, be))
    (h1 : ∀ e q M', M = (e, q) :: M' → e < 32 → q.length ≤ 16 → ∀ (kn md op : Int32) (ch ga pl : Nat → Int32), yw_OM (yp_P co ef th ta de sp) t s M' kn ch → yw_CH pl 0 q → post 1 (wr, kn, md, op, nI e, nI q.length, bs, co, ef, th, ta, de, sp, li, ch, ga, pl, be)) :
    wpY_next post (wr, kn, md, op, st, ps, bs, co, ef, th, ta, de, sp, li, ch, ga, pl, be) (nI t) (nI s) := by
  rcases hM with ⟨e1, e2⟩ | ⟨cs, c1, c2, c3, c4, c5⟩
  · subst e1
    refine br_t (by decide) ⟨1, ?_⟩
    refine br_t rfl ?_
    exact br_t rfl ⟨rfl, h0 e2 _ _ _ _ _ _ _ _⟩
  · subst c2 c5
    refine br_f (nI_pos (by omega)) ⟨(mp_R (yp_P co ef th ta de sp) 40 [8 + t] s [] cs).length + 1, ?_⟩
    exact yw_next16 wr bs co ef th ta de sp li be ht hs hok _ _ cs md op st ps ch ga pl (Nat.le_refl _) (Nat.lt_succ_self _) c1 c3 c4 h0 h1
/-- counting -/
def mp_ct (e : Nat) : List (Nat × List Nat) → Nat
  | [] => 0
  | x :: l => (if x.1 = e then 1 else 0) + mp_ct e l
theorem yw_count_a {post : Int32 → SY → Prop} (wr bs : Int32) (co ef th ta de sp li be : Nat → Int32) {t s : Nat} (ht : t < 4) (hs : s < 32) (hok : yp_ok th ta sp) :
    ∀ (M : List (Nat × List Nat)) (F n : Nat) (kn md op st ps : Int32) (ch ga pl : Nat → Int32), M.length < F → yw_OM (yp_P co ef th ta de sp) t s M kn ch →
    (∀ (kn md op st ps : Int32) (ch ga pl : Nat → Int32), post (nI (n + M.length)) (wr, kn, md, op, st, ps, bs, co, ef, th, ta, de, sp, li, ch, ga, pl, be)) →
    wY_count_8 post (nI t) (nI s) (-1) F (nI n) wr kn md op st ps bs co ef th ta de sp li ch ga pl be := by
  intro M
  induction M with
  | nil =>
    intro F n kn md op st ps ch ga pl hF hM H
    obtain ⟨F, rfl⟩ : ∃ n, F = n + 1 := ⟨F - 1, by omega⟩
    refine yw_next _ _ _ _ _ _ _ _ _ _ _ _ _ _ _ _ _ _ ht hs hok hM (fun _ kn md op st ps ch ga pl => ?_) (fun e q M' h => nomatch h)
    exact br_t rfl (H _ _ _ _ _ _ _ _)
  | cons x M ih =>
    intro F n kn md op st ps ch ga pl hF hM H
    have hl : (x :: M).length = M.length + 1 := rfl
    obtain ⟨F, rfl⟩ : ∃ n, F = n + 1 := ⟨F - 1, by omega⟩
    refine yw_next _ _ _ _ _ _ _ _ _ _ _ _ _ _ _ _ _ _ ht hs hok hM (fun h => nomatch h) ?_
    intro e q M' h he hq kn md op ch ga pl hM' hpl
    injection h with h1 h2
    subst h1 h2
    refine br_f (by decide) (br_t (by decide) (nm_r (nI_1 _) ?_))
    refine ih F (n + 1) _ _ _ _ _ _ _ _ (by omega) hM' ?_
    intro kn md op st ps ch ga pl
    have := H kn md op st ps ch ga pl
    rw [hl] at this
    have e : n + 1 + M.length = n + (M.length + 1) := by omega
    rw [e]
    exact this
theorem yw_count_e {post : Int32 → SY → Prop} (wr bs : Int32) (co ef th ta de sp li be : Nat → Int32) {t s d : Nat} (ht : t < 4) (hs : s < 32) (hd : d < 32) (hok : yp_ok th ta sp) :
    ∀ (M : List (Nat × List Nat)) (F n : Nat) (kn md op st ps : Int32) (ch ga pl : Nat → Int32), M.length < F → yw_OM (yp_P co ef th ta de sp) t s M kn ch →
    (∀ (kn md op st ps : Int32) (ch ga pl : Nat → Int32), post (nI (n + mp_ct d M)) (wr, kn, md, op, st, ps, bs, co, ef, th, ta, de, sp, li, ch, ga, pl, be)) →
    wY_count_8 post (nI t) (nI s) (nI d) F (nI n) wr kn md op st ps bs co ef th ta de sp li ch ga pl be := by
  intro M
  induction M with
  | nil =>
    intro F n kn md op st ps ch ga pl hF hM H
    obtain ⟨F, rfl⟩ : ∃ n, F = n + 1 := ⟨F - 1, by omega⟩
    refine yw_next _ _ _ _ _ _ _ _ _ _ _ _ _ _ _ _ _ _ ht hs hok hM (fun _ kn md op st ps ch ga pl => ?_) (fun e q M' h => nomatch h)
    exact br_t rfl (H _ _ _ _ _ _ _ _)
  | cons x M ih =>
    intro F n kn md op st ps ch ga pl hF hM H
    have hl : (x :: M).length = M.length + 1 := rfl
    have hc : mp_ct d (x :: M) = (if x.1 = d then 1 else 0) + mp_ct d M := rfl
    obtain ⟨F, rfl⟩ : ∃ n, F = n + 1 := ⟨F - 1, by omega⟩
    refine yw_next _ _ _ _ _ _ _ _ _ _ _ _ _ _ _ _ _ _ ht hs hok hM (fun h => nomatch h) ?_
    intro e q M' h he hq kn md op ch ga pl hM' hpl
    injection h with h1 h2
    subst h1 h2
    refine br_f (by decide) (br_f (nI_pos (by omega)) (pk_eq e d (fun z => nm_r (nI_1 _) ?_) (fun z => ?_)))
    · refine ih F (n + 1) _ _ _ _ _ _ _ _ (by omega) hM' ?_
      intro kn md op st ps ch ga pl
      have := H kn md op st ps ch ga pl
      rw [hc, if_pos z] at this
      have e : n + 1 + mp_ct d M = n + (1 + mp_ct d M) := by omega
      rw [e]
      exact this
    · refine ih F n _ _ _ _ _ _ _ _ (by omega) hM' ?_
      intro kn md op st ps ch ga pl
      have := H kn md op st ps ch ga pl
      rw [hc, if_neg z, Nat.zero_add] at this
      exact this
/-- the least end from d on -/
def mp_lo (d : Nat) : Option Nat → List (Nat × List Nat) → Option Nat
  | o, [] => o
  | o, x :: M => mp_lo d (if x.1 < d then o else match o with | none => some x.1 | some l => if l ≤ x.1 then some l else some x.1) M
def mp_nO : Option Nat → Int32
  | none => -1
  | some l => nI l
theorem yw_nextEnd34 {post : Int32 → SY → Prop} (wr bs : Int32) (co ef th ta de sp li be : Nat → Int32) {t s d : Nat} (ht : t < 4) (hs : s < 32) (hd : d < 32) (hok : yp_ok th ta sp) :
    ∀ (M : List (Nat × List Nat)) (F : Nat) (o : Option Nat) (kn md op st ps : Int32) (ch ga pl : Nat → Int32), M.length < F → (∀ l, o = some l → l < 32) → yw_OM (yp_P co ef th ta de sp) t s M kn ch →
    (∀ (kn md op st ps : Int32) (ch ga pl : Nat → Int32), post (mp_nO (mp_lo d o M)) (wr, kn, md, op, st, ps, bs, co, ef, th, ta, de, sp, li, ch, ga, pl, be)) →
    wY_nextEnd_34 post (nI t) (nI s) (nI d) F (mp_nO o) wr kn md op st ps bs co ef th ta de sp li ch ga pl be := by
  intro M
  induction M with
  | nil =>
    intro F o kn md op st ps ch ga pl hF ho hM H
    obtain ⟨F, rfl⟩ : ∃ n, F = n + 1 := ⟨F - 1, by omega⟩
    refine yw_next _ _ _ _ _ _ _ _ _ _ _ _ _ _ _ _ _ _ ht hs hok hM (fun _ kn md op st ps ch ga pl => ?_) (fun e q M' h => nomatch h)
    exact br_t rfl (H _ _ _ _ _ _ _ _)
  | cons x M ih =>
    intro F o kn md op st ps ch ga pl hF ho hM H
    have hl : (x :: M).length = M.length + 1 := rfl
    obtain ⟨F, rfl⟩ : ∃ n, F = n + 1 := ⟨F - 1, by omega⟩
    refine yw_next _ _ _ _ _ _ _ _ _ _ _ _ _ _ _ _ _ _ ht hs hok hM (fun h => nomatch h) ?_
    intro e q M' h he hq kn md op ch ga pl hM' hpl
    injection h with h1 h2
    subst h1 h2
    have hstep : ∀ o', (if e < d then o else match o with | none => some e | some l => if l ≤ e then some l else some e) = o' → (∀ l, o' = some l → l < 32) →
        wY_nextEnd_34 post (nI t) (nI s) (nI d) F (mp_nO o') wr kn md op (nI e) (nI q.length) bs co ef th ta de sp li ch ga pl be := by
      intro o' ho' hb
      refine ih F o' _ _ _ _ _ _ _ _ (by omega) hb hM' ?_
      intro kn md op st ps ch ga pl
      have := H kn md op st ps ch ga pl
      subst ho'
      exact this
    refine br_f (by decide) (pk_lt e d (fun z => hstep o (if_pos z) ho) (fun z => ?_))
    have hz : ¬ e < d := by omega
    cases o with
    | none =>
      refine br_t (by decide) ?_
      exact hstep (some e) (if_neg hz) (fun l hl => by injection hl with hl; omega)
    | some l =>
      have hl32 := ho l rfl
      refine br_f (nI_pos (by omega)) (pk_le l e (fun y => ?_) (fun y => ?_))
      · exact hstep (some l) (by rw [if_neg hz]; exact if_pos y) (fun l' hl' => by injection hl' with hl'; omega)
      · exact hstep (some e) (by rw [if_neg hz]; exact if_neg (by omega)) (fun l' hl' => by injection hl' with hl'; omega)
/-- the first plan -/
def mp_lx : List Nat → List Nat → Bool
  | a :: p, b :: q => if a = b then mp_lx p q else decide (a < b)
  | _, _ => false
def mp_bt (q : List Nat) : Option (List Nat) → Bool
  | none => true
  | some b => if q.length = b.length then mp_lx q b else decide (q.length < b.length)
def mp_be (d : Nat) : Option (List Nat) → List (Nat × List Nat) → Option (List Nat)
  | o, [] => o
  | o, x :: M => mp_be d (if x.1 = d ∧ mp_bt x.2 o = true then some x.2 else o) M
theorem yw_better44 {post : Int32 → Prop} (wr kn md op st bs : Int32) (co ef th ta de sp li ch ga pl be : Nat → Int32) {L : Nat} (hL : L ≤ 16) : ∀ (q b : List Nat) (i F : Nat), i + q.length = L → q.length = b.length → q.length < F → yw_CH pl i q → yw_CH be i b → (∀ a, a ∈ q → a < 8) → (∀ a, a ∈ b → a < 8) →
    post (if mp_lx q b then 1 else 0) → wY_better_44 post wr kn md op st (nI L) bs co ef th ta de sp li ch ga pl be F (nI i) := by
  intro q
  induction q with
  | nil =>
    intro b i F h1 h2 hF _ _ _ _ H
    obtain ⟨F, rfl⟩ : ∃ n, F = n + 1 := ⟨F - 1, by omega⟩
    have h1' : i + 0 = L := h1
    exact br_t (nI_le (by omega) (by omega)) (by cases b <;> exact H)
  | cons a q ih =>
    intro b i F h1 h2 hF c1 c2 d1 d2 H
    obtain ⟨F, rfl⟩ : ∃ n, F = n + 1 := ⟨F - 1, by omega⟩
    have h1' : i + (q.length + 1) = L := h1
    have hF' : q.length + 1 < F + 1 := hF
    cases b with
    | nil => exact nomatch h2
    | cons b r =>
      have h2' : q.length + 1 = r.length + 1 := h2
      have ha := d1 a List.mem_cons_self
      have hb := d2 b List.mem_cons_self
      have hin : vp_in (nI i) 16 := vp_in_nI (by omega) (by decide)
      refine br_f (nI_ge (by omega) (by omega)) ⟨hin, hin, ?_⟩
      rw [nI_clamp (by omega : i < 2 ^ 31), c1.1, c2.1]
      refine pk_eq a b (fun z => nm_r (nI_1 _) ?_) (fun z => ⟨hin, hin, pk_le b a (fun y => ?_) (fun y => ?_)⟩)
      · refine ih r (i + 1) F (by omega) (by omega) (by omega) c1.2 c2.2 (fun a h => d1 a (List.mem_cons_of_mem _ h)) (fun a h => d2 a (List.mem_cons_of_mem _ h)) ?_
        have : mp_lx (a :: q) (b :: r) = mp_lx q r := if_pos z
        rw [this] at H
        exact H
      · have : mp_lx (a :: q) (b :: r) = decide (a < b) := if_neg z
        rw [this, decide_eq_false (by omega)] at H
        exact H
      · have : mp_lx (a :: q) (b :: r) = decide (a < b) := if_neg z
        rw [this, decide_eq_true (by omega)] at H
        exact H
def mp_nS : Option (List Nat) → Int32
  | none => -1
  | some b => nI b.length
def yw_BE (be : Nat → Int32) : Option (List Nat) → Prop
  | none => True
  | some b => b.length ≤ 16 ∧ yw_CH be 0 b ∧ ∀ a, a ∈ b → a < 8
theorem yw_better {post : Int32 → Prop} (wr kn md op st : Int32) (co ef th ta de sp li ch ga pl be : Nat → Int32) {q : List Nat} {o : Option (List Nat)} (hq : q.length ≤ 16) (hpl : yw_CH pl 0 q) (hd : ∀ a, a ∈ q → a < 8) (ho : yw_BE be o)
    (H : post (if mp_bt q o then 1 else 0)) : wpY_better post (wr, kn, md, op, st, nI q.length, mp_nS o, co, ef, th, ta, de, sp, li, ch, ga, pl, be) := by
  cases o with
  | none =>
    refine br_t (by decide) ?_
    exact br_t (by decide) H
  | some b =>
    obtain ⟨b1, b2, b3⟩ := ho
    refine br_f (nI_pos (by omega)) (pk_eq q.length b.length (fun z => ?_) (fun z => ?_))
    · have : mp_bt q (some b) = mp_lx q b := if_pos z
      rw [this] at H
      exact ⟨q.length + 1, yw_better44 _ _ _ _ _ _ _ _ _ _ _ _ _ _ _ _ _ hq q b 0 _ (by omega) z (by omega) hpl b2 hd b3 H⟩
    · have e : mp_bt q (some b) = decide (q.length < b.length) := if_neg z
      rw [e] at H
      refine br_f (nI_pos (by omega)) (pk_le b.length q.length (fun y => ?_) (fun y => ?_))
      · rw [decide_eq_false (by omega)] at H
        exact H
      · rw [decide_eq_true (by omega)] at H
        exact H
theorem yw_search45 {post : SY → Prop} {J : Int32 → Int32 → Int32 → Int32 → Int32 → Int32 → Int32 → (Nat → Int32) → (Nat → Int32) → (Nat → Int32) → (Nat → Int32) → (Nat → Int32) → (Nat → Int32) → (Nat → Int32) → (Nat → Int32) → (Nat → Int32) → (Nat → Int32) → (Nat → Int32) → Prop} {x1 x2 x3 : Int32} (wr kn md op st bs : Int32) (co ef th ta de sp li ch ga pl : Nat → Int32) {L : Nat} (hL : L ≤ 16) :
    ∀ (k i F : Nat) (be : Nat → Int32), i + k = L → k < F → (∀ j, j < i → be j = pl j) → (∀ be' : Nat → Int32, (∀ j, j < L → be' j = pl j) → J wr kn md op st (nI L) bs co ef th ta de sp li ch ga pl be') →
    wY_search_45 post J x1 x2 x3 wr kn md op st (nI L) bs F (nI i) co ef th ta de sp li ch ga pl be := by
  intro k
  induction k with
  | zero =>
    intro i F be h1 hF hb H
    obtain ⟨F, rfl⟩ : ∃ n, F = n + 1 := ⟨F - 1, by omega⟩
    exact br_t (nI_le (by omega) (by omega)) (H be (fun j hj => hb j (by omega)))
  | succ k ih =>
    intro i F be h1 hF hb H
    obtain ⟨F, rfl⟩ : ∃ n, F = n + 1 := ⟨F - 1, by omega⟩
    have hin : vp_in (nI i) 16 := vp_in_nI (by omega) (by decide)
    refine br_f (nI_ge (by omega) (by omega)) ⟨hin, hin, ?_⟩
    rw [nI_clamp (by omega : i < 2 ^ 31)]
    refine nm_e (nm_r (nI_1 _) (ih (i + 1) F _ (by omega) (by omega) ?_ H))
    intro j hj
    by_cases z : j = i
    · subst z
      exact pk_us
    · exact (pk_un z).trans (hb j (by omega))
theorem yw_search10 {post : SY → Prop} (wr : Int32) (co ef th ta de sp li : Nat → Int32) {t s d : Nat} (ht : t < 4) (hs : s < 32) (hd : d < 32) (hok : yp_ok th ta sp) :
    ∀ (M : List (Nat × List Nat)) (F : Nat) (o : Option (List Nat)) (kn md op st ps : Int32) (ch ga pl be : Nat → Int32), M.length < F → yw_BE be o → (∀ x, x ∈ M → ∀ a, a ∈ x.2 → a < 8) → yw_OM (yp_P co ef th ta de sp) t s M kn ch →
    (∀ (kn md op st ps : Int32) (ch ga pl be : Nat → Int32), yw_BE be (mp_be d o M) → post (wr, kn, md, op, st, ps, mp_nS (mp_be d o M), co, ef, th, ta, de, sp, li, ch, ga, pl, be)) →
    wY_search_10 post (nI t) (nI s) (nI d) F wr kn md op st ps (mp_nS o) co ef th ta de sp li ch ga pl be := by
  intro M
  induction M with
  | nil =>
    intro F o kn md op st ps ch ga pl be hF ho hdg hM H
    obtain ⟨F, rfl⟩ : ∃ n, F = n + 1 := ⟨F - 1, by omega⟩
    refine yw_next _ _ _ _ _ _ _ _ _ _ _ _ _ _ _ _ _ _ ht hs hok hM (fun _ kn md op st ps ch ga pl => ?_) (fun e q M' h => nomatch h)
    exact br_t rfl (H _ _ _ _ _ _ _ _ _ ho)
  | cons x M ih =>
    intro F o kn md op st ps ch ga pl be hF ho hdg hM H
    have hl : (x :: M).length = M.length + 1 := rfl
    obtain ⟨F, rfl⟩ : ∃ n, F = n + 1 := ⟨F - 1, by omega⟩
    refine yw_next _ _ _ _ _ _ _ _ _ _ _ _ _ _ _ _ _ _ ht hs hok hM (fun h => nomatch h) ?_
    intro e q M' h he hq kn md op ch ga pl hM' hpl
    injection h with h1 h2
    subst h1 h2
    have hdq := hdg (e, q) List.mem_cons_self
    have hdM : ∀ x, x ∈ M → ∀ a, a ∈ x.2 → a < 8 := fun x hx => hdg x (List.mem_cons_of_mem _ hx)
    have keep : (¬ (e = d ∧ mp_bt q o = true)) → wY_search_10 post (nI t) (nI s) (nI d) F wr kn md op (nI e) (nI q.length) (mp_nS o) co ef th ta de sp li ch ga pl be := by
      intro hno
      refine ih F o _ _ _ _ _ _ _ _ _ (by omega) ho hdM hM' ?_
      intro kn md op st ps ch ga pl be hbe
      have := H kn md op st ps ch ga pl be
      have e2 : mp_be d o ((e, q) :: M) = mp_be d o M := by
        show mp_be d (if e = d ∧ mp_bt q o = true then some q else o) M = _
        rw [if_neg hno]
      rw [e2] at this
      exact this hbe
    refine br_f (by decide) (pk_eq e d (fun z => ?_) (fun z => keep (fun h => z h.1)))
    refine yw_better _ _ _ _ _ _ _ _ _ _ _ _ _ _ _ _ hq hpl hdq ho ?_
    by_cases y : mp_bt q o = true
    · rw [if_pos y]
      refine br_f (by decide) ⟨q.length + 1, yw_search45 _ _ _ _ _ _ _ _ _ _ _ _ _ _ _ _ hq q.length 0 _ _ (by omega) (by omega) (fun j hj => by omega) ?_⟩
      intro be' hbe'
      have hB : yw_BE be' (some q) := ⟨hq, yw_CH_cong (fun i _ h2 => hbe' i (by omega)) hpl, hdq⟩
      refine ih F (some q) _ _ _ _ _ _ _ _ _ (by omega) hB hdM hM' ?_
      intro kn md op st ps ch ga pl be hbe
      have := H kn md op st ps ch ga pl be
      have e2 : mp_be d o ((e, q) :: M) = mp_be d (some q) M := by
        show mp_be d (if e = d ∧ mp_bt q o = true then some q else o) M = _
        rw [if_pos ⟨z, y⟩]
      rw [e2] at this
      exact this hbe
    · rw [if_neg y]
      exact br_t rfl (keep (fun h => y h.2))
