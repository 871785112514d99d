/-- the problem that the reference's arrays hold -/
def yp_hI (c : Int32) (s : Nat) : Bool := decide (((c &&& 31) &&& (nI s ^^^ (-1))) = 0) && decide (((c >>> ((5 : Int32) &&& 31)) &&& nI s) = 0)
def yp_ex (f : Int32) (s : Nat) : Int32 := (nI s &&& ((f >>> ((5 : Int32) &&& 31)) ^^^ (-1))) ||| (f &&& 31)
def yp_chg (f : Int32) (s : Nat) : Nat := (yp_ex f s).toNatClampNeg
def yp_P (co ef th ta de sp : Nat → Int32) : mp_PB := (fun a s => yp_hI (co a) s, fun a s => yp_chg (ef a) s, fun t m s => decide (¬ th m = 0) && (decide (ta m = nI t) && yp_hI (de m) s), fun m => (sp m &&& 15).toNatClampNeg, fun m => (sp m >>> ((4 : Int32) &&& 31)).toNatClampNeg)
def yp_ok (th ta sp : Nat → Int32) : Prop := ∀ m, m < 8 → (th m = 0 ∨ th m = 1) ∧ (¬ th m = 0 → ∃ t k, t < 4 ∧ ta m = nI t ∧ k < 256 ∧ sp m = nI k ∧ mp_sv t (k % 16) ∧ mp_sv t (k / 16))
theorem yp_ofBV (x : Int32) : x = nI x.toBitVec.toNat := by
  apply Int32.toBitVec_inj.mp
  apply BitVec.eq_of_toNat_eq
  show _ = (BitVec.ofNat 32 _).toNat
  rw [BitVec.toNat_ofNat]
  exact (Nat.mod_eq_of_lt x.toBitVec.isLt).symm
theorem yp_ex_eq (f : Int32) {s : Nat} (hs : s < 32) : yp_ex f s = nI (yp_chg f s) ∧ yp_chg f s < 32 := by
  have h : (yp_ex f s).toBitVec.toNat < 2 ^ 5 := by
    unfold yp_ex
    rw [Int32.toBitVec_or, BitVec.toNat_or]
    apply Nat.or_lt_two_pow
    · rw [Int32.toBitVec_and, BitVec.toNat_and]
      refine Nat.lt_of_le_of_lt Nat.and_le_left ?_
      rw [pk_tn (by omega)]
      exact hs
    · rw [Int32.toBitVec_and, BitVec.toNat_and]
      exact Nat.lt_of_le_of_lt Nat.and_le_right (by decide)
  have e := yp_ofBV (yp_ex f s)
  have e2 : yp_chg f s = (yp_ex f s).toBitVec.toNat := by
    unfold yp_chg
    rw [e, nI_clamp (by omega), ← e]
  rw [e2]
  exact ⟨e, h⟩
theorem yp_app {co ef th ta de sp : Nat → Int32} {t m s : Nat} : mp_app (yp_P co ef th ta de sp) t m s = true ↔ (¬ th m = 0 ∧ ta m = nI t ∧ yp_hI (de m) s = true) := by
  show (decide (¬ th m = 0) && (decide (ta m = nI t) && yp_hI (de m) s)) = true ↔ _
  simp
theorem yp_fs {co ef th ta de sp : Nat → Int32} {m k : Nat} (h : sp m = nI k) (hk : k < 256) : mp_fs (yp_P co ef th ta de sp) m = k % 16 ∧ sp m &&& 15 = nI (k % 16) := by
  have e : sp m &&& 15 = nI (k % 16) := by
    rw [h]
    exact pk_andN (by omega) 4 (by decide)
  refine ⟨?_, e⟩
  show (sp m &&& 15).toNatClampNeg = _
  rw [e, nI_clamp (by omega)]
theorem yp_sn {co ef th ta de sp : Nat → Int32} {m k : Nat} (h : sp m = nI k) (hk : k < 256) : mp_sn (yp_P co ef th ta de sp) m = k / 16 ∧ sp m >>> ((4 : Int32) &&& 31) = nI (k / 16) := by
  have e : sp m >>> ((4 : Int32) &&& 31) = nI (k / 16) := by
    rw [h]
    exact pk_shrN (by omega) _ 4 (by decide)
  refine ⟨?_, e⟩
  show (sp m >>> ((4 : Int32) &&& 31)).toNatClampNeg = _
  rw [e, nI_clamp (by omega)]
theorem yp_mok {co ef th ta de sp : Nat → Int32} (h : yp_ok th ta sp) : mp_ok (yp_P co ef th ta de sp) := by
  refine ⟨fun a s _ hs => (yp_ex_eq (ef a) hs).2, fun t m s ht hm ha => ?_⟩
  obtain ⟨h1, h2, h3⟩ := yp_app.mp ha
  obtain ⟨t', k, ht', e1, hk, e2, s1, s2⟩ := (h m hm).2 h1
  have et : t = t' := (nI_eq (by omega) (by omega)).mp (h2.symm.trans e1)
  subst et
  rw [(yp_fs (co := co) (ef := ef) (th := th) (ta := ta) (de := de) e2 hk).1, (yp_sn (co := co) (ef := ef) (th := th) (ta := ta) (de := de) e2 hk).1]
  exact ⟨s1, s2⟩
/-- contents of agenda, choices and plan -/
def yw_AG (a : Nat → Int32) : List Nat → Prop
  | [] => True
  | v :: l => a l.length = nI v ∧ yw_AG a l
def yw_CH (a : Nat → Int32) : Nat → List Nat → Prop
  | _, [] => True
  | k, c :: l => a k = nI c ∧ yw_CH a (k + 1) l
theorem yw_AG_upd {a : Nat → Int32} {k : Nat} {x : Int32} : ∀ {l : List Nat}, l.length ≤ k → yw_AG a l → yw_AG (upd a k x) l
  | [], _, _ => trivial
  | v :: l, h, ⟨h1, h2⟩ => by
    have h' : l.length + 1 ≤ k := h
    exact ⟨(pk_un (by omega)).trans h1, yw_AG_upd (by omega) h2⟩
theorem yw_CH_cong {a b : Nat → Int32} : ∀ {l : List Nat} {k : Nat}, (∀ i, k ≤ i → i < k + l.length → b i = a i) → yw_CH a k l → yw_CH b k l
  | [], _, _, _ => trivial
  | c :: l, k, h, ⟨h1, h2⟩ => by
    have hl : (c :: l).length = l.length + 1 := rfl
    exact ⟨(h k (Nat.le_refl k) (by omega)).trans h1, yw_CH_cong (fun i i1 i2 => h i (by omega) (by omega)) h2⟩
theorem yw_CH_app {a : Nat → Int32} : ∀ {l : List Nat} {k : Nat} {c : Nat}, yw_CH a k (l ++ [c]) ↔ (yw_CH a k l ∧ a (k + l.length) = nI c)
  | [], k, c => ⟨fun h => ⟨trivial, h.1⟩, fun h => ⟨h.2, trivial⟩⟩
  | d :: l, k, c => by
    have e : k + (d :: l).length = k + 1 + l.length := by
      show k + (l.length + 1) = _
      omega
    rw [e]
    constructor
    · intro h
      have h2 := yw_CH_app.mp h.2
      exact ⟨⟨h.1, h2.1⟩, h2.2⟩
    · intro h
      exact ⟨h.1.1, yw_CH_app.mpr ⟨h.1.2, h.2⟩⟩
theorem yw_CH_at {a : Nat → Int32} : ∀ {l : List Nat} {k i : Nat} (h : i < l.length), yw_CH a k l → a (k + i) = nI l[i]
  | [], _, _, h, _ => absurd h (Nat.not_lt_zero _)
  | c :: l, k, 0, _, ⟨h1, _⟩ => h1
  | c :: l, k, i + 1, h, ⟨_, h2⟩ => by
    have := yw_CH_at (i := i) (Nat.lt_of_succ_lt_succ h) h2
    have e : k + 1 + i = k + (i + 1) := by omega
    rw [e] at this
    exact this
theorem yw_CH_inc {a : Nat → Int32} : ∀ {l : List Nat} {k : Nat}, l ≠ [] → yw_CH a k l → yw_CH (upd a (k + l.length - 1) (a (k + l.length - 1) + 1)) k (mp_inc l)
  | [], _, h, _ => absurd rfl h
  | [c], k, _, ⟨h1, _⟩ => by
    have e : k + [c].length - 1 = k := by
      show k + 1 - 1 = k
      omega
    rw [e]
    refine ⟨pk_us.trans ?_, trivial⟩
    rw [h1, nI_1]
  | c :: c' :: l, k, _, ⟨h1, h2⟩ => by
    have e : k + (c :: c' :: l).length - 1 = k + 1 + (c' :: l).length - 1 := by
      show k + (l.length + 1 + 1) - 1 = k + 1 + (l.length + 1) - 1
      omega
    rw [e]
    have e2 : (c' :: l).length = l.length + 1 := rfl
    exact ⟨(pk_un (by omega)).trans h1, yw_CH_inc (List.cons_ne_nil _ _) h2⟩
theorem yw_holds {post : Int32 → Prop} {u : SY} {c : Int32} {s : Nat} (h : post (if yp_hI c s then 1 else 0)) : wpY_holds post u c (nI s) := by
  obtain ⟨wr, kn, md, op, st, ps, bs, co, ef, th, ta, de, sp, li, ch, ga, pl, be⟩ := u
  unfold yp_hI at h
  refine br_c (fun h1 => br_c (fun h2 => ?_) (fun h2 => ?_)) (fun h1 => ?_)
  · rw [decide_eq_true h1, decide_eq_true h2] at h
    exact h
  · rw [decide_eq_true h1, decide_eq_false h2] at h
    exact h
  · rw [decide_eq_false h1] at h
    exact h
theorem yw_changed {post : Int32 → Prop} (wr kn md op st ps bs : Int32) (co ef th ta de sp li ch ga pl be : Nat → Int32) {a s : Nat} (ha : a < 6) (hs : s < 32) (h : post (nI (yp_chg (ef a) s))) : wpY_changed post (wr, kn, md, op, st, ps, bs, co, ef, th, ta, de, sp, li, ch, ga, pl, be) (nI a) (nI s) := by
  have hi : vp_in (nI a) 6 := vp_in_nI ha (by decide)
  have e := (yp_ex_eq (ef a) hs).1
  refine ⟨hi, hi, ?_⟩
  rw [nI_clamp (by omega)]
  show post (yp_ex (ef a) s)
  rw [e]
  exact h
theorem yw_push {post : SY → Prop} (wr kn md st ps bs : Int32) (co ef th ta de sp li ch ga pl be : Nat → Int32) {v : Nat} {a : List Nat} (hv : v < 16) (hl : a.length < 31) (hg : yw_AG ga a)
    (h : ∀ ga', yw_AG ga' (mp_pu v a) → post (wr, kn, md, nI (mp_pu v a).length, st, ps, bs, co, ef, th, ta, de, sp, li, ch, ga', pl, be)) : wpY_push post (wr, kn, md, nI a.length, st, ps, bs, co, ef, th, ta, de, sp, li, ch, ga, pl, be) (nI v) := by
  by_cases z : v = 0
  · subst z
    refine br_t (nI_le (Nat.le_refl 0) (by decide)) ?_
    exact h ga hg
  · refine br_f (nI_nle (by omega) (by omega)) ⟨vp_in_nI hl (by decide), ?_⟩
    intro g eg o eo
    subst eg eo
    rw [nI_1, nI_clamp (by omega)]
    have h' := h (upd ga a.length (nI v))
    unfold mp_pu at h'
    rw [if_neg z] at h'
    exact h' ⟨pk_us, yw_AG_upd (Nat.le_refl _) hg⟩
theorem yw_pick {post : Int32 → SY → Prop} (wr kn st ps bs : Int32) (co ef th ta de sp li ch ga pl be : Nat → Int32) {m k j : Nat} {a : List Nat} (hm : m < 8) (hk : k < 256) (ek : sp m = nI k) (hj : j < 15) (hl : a.length + 2 < 31) (hg : yw_AG ga a)
    (h : ∀ ga', yw_AG ga' (mp_ch (yp_P co ef th ta de sp) m a) → post 1 (wr, kn, nI (j + 1), nI (mp_ch (yp_P co ef th ta de sp) m a).length, st, ps, bs, co, ef, th, ta, de, sp, li, upd ch j (nI m), ga', pl, be)) :
    wY_choose_73 post (nI m) wr kn (nI j) (nI a.length) st ps bs co ef th ta de sp li ch ga pl be := by
  have e1 := yp_fs (co := co) (ef := ef) (th := th) (ta := ta) (de := de) ek hk
  have e2 := yp_sn (co := co) (ef := ef) (th := th) (ta := ta) (de := de) ek hk
  have hin : vp_in (nI m) 8 := vp_in_nI hm (by decide)
  have hc : (nI m).toNatClampNeg = m := nI_clamp (by omega)
  have n8 : ¬ nI m = 8 := fun e => by
    have := (nI_eq (a := m) (b := 8) (by omega) (by omega)).mp e
    omega
  refine br_f n8 ⟨vp_in_nI hj (by decide), ?_⟩
  intro c ec d ed
  subst ec ed
  rw [nI_1, nI_clamp (by omega : j < 2 ^ 31)]
  refine ⟨hin, ?_⟩
  rw [hc, e2.2]
  refine yw_push (post := fun u => match u with | (wr, kn, md, op, st, ps, bs, co, ef, th, ta, de, sp, li, ch, ga, pl, be) => _) _ _ _ _ _ _ _ _ _ _ _ _ _ _ _ _ _ (by omega) (by omega) hg ?_
  intro g1 hg1
  refine ⟨hin, ?_⟩
  rw [e1.2]
  have hlen : (mp_pu (k / 16) a).length < 31 := by
    unfold mp_pu
    split
    · omega
    · show a.length + 1 < 31
      omega
  refine yw_push (post := fun u => match u with | (wr, kn, md, op, st, ps, bs, co, ef, th, ta, de, sp, li, ch, ga, pl, be) => _) _ _ _ _ _ _ _ _ _ _ _ _ _ _ _ _ _ (by omega) hlen hg1 ?_
  intro g2 hg2
  have h' := h g2
  unfold mp_ch at h'
  rw [e1.1, e2.1] at h'
  exact h' hg2
theorem yw_choose25 {post : Int32 → SY → Prop} (wr kn md op ps bs : Int32) (co ef th ta de sp li ch ga pl be : Nat → Int32) {t s : Nat} : ∀ k c F, c + k = 8 → k < F →
    ((∀ m, c ≤ m → m < 8 → mp_app (yp_P co ef th ta de sp) t m s = false) → wY_choose_73 post (nI 8) wr kn md op (nI s) ps bs co ef th ta de sp li ch ga pl be) →
    (∀ m, c ≤ m → m < 8 → mp_app (yp_P co ef th ta de sp) t m s = true → (∀ i, c ≤ i → i < m → mp_app (yp_P co ef th ta de sp) t i s = false) → wY_choose_73 post (nI m) wr kn md op (nI s) ps bs co ef th ta de sp li ch ga pl be) →
    wY_choose_25 post (nI t) wr kn md op (nI s) ps bs co ef th ta de sp li ch ga pl be F (nI c) := by
  intro k
  induction k with
  | zero =>
    intro c F h1 h2 h3 h4
    obtain ⟨F, rfl⟩ : ∃ n, F = n + 1 := ⟨F - 1, by omega⟩
    obtain rfl : c = 8 := by omega
    exact br_t (nI_le (Nat.le_refl 8) (by decide)) (h3 (fun m a b => by omega))
  | succ k ih =>
    intro c F h1 h2 h3 h4
    obtain ⟨F, rfl⟩ : ∃ n, F = n + 1 := ⟨F - 1, by omega⟩
    have hin : vp_in (nI c) 8 := vp_in_nI (by omega) (by decide)
    have hc : (nI c).toNatClampNeg = c := nI_clamp (by omega)
    have go : mp_app (yp_P co ef th ta de sp) t c s = false → wY_choose_25 post (nI t) wr kn md op (nI s) ps bs co ef th ta de sp li ch ga pl be F (nI c + 1) := by
      intro hf
      rw [nI_1]
      refine ih (c + 1) F (by omega) (by omega) (fun hall => h3 (fun m a b => ?_)) (fun m a b e hall => h4 m (by omega) b e (fun i p q => ?_))
      · by_cases z : m = c
        · rw [z]; exact hf
        · exact hall m (by omega) b
      · by_cases z : i = c
        · rw [z]; exact hf
        · exact hall i (by omega) q
    refine br_f (nI_ge (b := 8) (by omega) (by decide)) ⟨hin, ?_⟩
    rw [hc]
    have nap : ¬ mp_app (yp_P co ef th ta de sp) t c s = true → mp_app (yp_P co ef th ta de sp) t c s = false := fun z => by
      cases e : mp_app (yp_P co ef th ta de sp) t c s
      · rfl
      · exact absurd e z
    refine br_c (fun z => nm_e (go (nap fun a => (yp_app.mp a).1 z))) (fun z => ⟨hin, ?_⟩)
    refine br_c (fun w => ⟨hin, ?_⟩) (fun w => nm_e (go (nap fun a => w (yp_app.mp a).2.1)))
    apply yw_holds
    by_cases x : yp_hI (de c) s = true
    · rw [if_pos x]
      exact br_f (by decide) (h4 c (Nat.le_refl c) (by omega) (yp_app.mpr ⟨z, w, x⟩) (fun i p q => by omega))
    · rw [if_neg x]
      exact br_t rfl (nm_e (go (nap fun a => x (yp_app.mp a).2.2)))
