def xw_R (l : List Nat) (ms : Int32) (ac ae mt mc mf sd li wc : Nat → Int32) (fp : Nat → Int64) (th sp : Nat → Int32) : Prop :=
  l.length ≤ 8 ∧ yw_CH li 0 l ∧ (∀ a, a ∈ l → a < 6) ∧ yp_ok th mt sp ∧ xw_M ms mf sd th sp ∧ ∀ v, v ≤ 11 → v ≠ 7 → xw_tv (yp_P ac ae th mt mc sp) v wc fp
/-- the relation: the same conditions, effects, tasks, demands and list; the component's tables tell of the ways -/
def i_Rel (_ : Nat) (u : SX) (v : SY) : Prop := ∃ (l : List Nat) (ms : Int32) (ac ae mt mc mf sd li wc : Nat → Int32) (fp : Nat → Int64) (sa pa : Nat → Int32) (kn md op st ps bs : Int32) (th sp ch ga pl be : Nat → Int32),
  u = (ms, nI l.length, ac, ae, mt, mc, mf, sd, li, wc, fp, sa, pa) ∧ v = (nI l.length, kn, md, op, st, ps, bs, ac, ae, th, mt, mc, sp, li, ch, ga, pl, be) ∧ xw_R l ms ac ae mt mc mf sd li wc fp th sp
theorem xr_mk (k : Nat) {l : List Nat} {ms : Int32} {ac ae mt mc mf sd li wc : Nat → Int32} {fp : Nat → Int64} {sa pa : Nat → Int32} {kn md op st ps bs : Int32} {th sp ch ga pl be : Nat → Int32} (h : xw_R l ms ac ae mt mc mf sd li wc fp th sp) :
    i_Rel k (ms, nI l.length, ac, ae, mt, mc, mf, sd, li, wc, fp, sa, pa) (nI l.length, kn, md, op, st, ps, bs, ac, ae, th, mt, mc, sp, li, ch, ga, pl, be) :=
  ⟨l, ms, ac, ae, mt, mc, mf, sd, li, wc, fp, sa, pa, kn, md, op, st, ps, bs, th, sp, ch, ga, pl, be, rfl, rfl, h⟩
theorem xr_lt_le {a b x : Int32} (h : a < b) (h2 : b ≤ x) : a < x := by
  rw [Int32.lt_iff_toInt_lt] at h ⊢
  rw [Int32.le_iff_toInt_le] at h2
  omega
theorem xr_nlt {a x : Int32} (h : a ≤ x) : ¬ x < a := by
  rw [Int32.lt_iff_toInt_lt]
  rw [Int32.le_iff_toInt_le] at h
  omega
theorem xr_nle {a b x : Int32} (h : a < b) (h2 : b ≤ x) : ¬ x ≤ a := by
  rw [Int32.lt_iff_toInt_lt] at h
  rw [Int32.le_iff_toInt_le] at h2 ⊢
  omega
theorem xr_dom (x : Int32) (n : Nat) (hn : n < 2 ^ 31) : (x < 0 ∨ nI n ≤ x) ∨ ∃ j : Nat, j < n ∧ x = nI j := by
  rcases pk_ix x hn with h | h | h
  · exact Or.inl (Or.inl h)
  · exact Or.inl (Or.inr h)
  · exact Or.inr h
theorem xr_pos {n : Nat} {x : Int32} (h : nI n ≤ x) (hn : n < 2 ^ 31) : ¬ x < 0 := by
  have := nI_pos' hn
  exact xr_nlt (Int32.le_trans this h)
theorem xw_isTask0 {post : Int32 → Prop} {x : Int32} (h : x < 0 ∨ nI 4 ≤ x) (hp : post 0) : wpX_isTask post x := by
  rcases h with h | h
  · exact br_t h hp
  · exact br_f (xr_pos h (by decide)) (br_t h hp)
theorem yw_task0 {post : Int32 → Prop} {u : SY} {x : Int32} (h : x < 0 ∨ nI 4 ≤ x) (hp : post 0) : wpY_task post u x := by
  obtain ⟨wr, kn, md, op, st, ps, bs, co, ef, th, ta, de, sp, li, ch, ga, pl, be⟩ := u
  rcases h with h | h
  · exact br_t h hp
  · exact br_f (xr_pos h (by decide)) (br_t (xr_lt_le (by decide) h) hp)
theorem xw_isState0 {post : Int32 → Prop} {x : Int32} (h : x < 0 ∨ nI 32 ≤ x) (hp : post 0) : wpX_isState post x := by
  rcases h with h | h
  · exact br_t h hp
  · exact br_f (xr_pos h (by decide)) (br_t h hp)
theorem yw_isState0 {post : Int32 → Prop} {u : SY} {x : Int32} (h : x < 0 ∨ nI 32 ≤ x) (hp : post 0) : wpY_isState post u x := by
  obtain ⟨wr, kn, md, op, st, ps, bs, co, ef, th, ta, de, sp, li, ch, ga, pl, be⟩ := u
  rcases h with h | h
  · exact br_t h hp
  · exact br_f (xr_pos h (by decide)) (br_t (xr_lt_le (by decide) h) hp)
theorem xw_pair0 {post : Int32 → Prop} {x : Int32} (h : x < 0 ∨ nI 1024 ≤ x) (hp : post 0) : wpX_isFactPair post x := by
  rcases h with h | h
  · exact br_t h hp
  · exact br_f (xr_pos h (by decide)) (br_t h hp)
theorem yw_pair0 {post : Int32 → Prop} {u : SY} {x : Int32} (h : x < 0 ∨ nI 1024 ≤ x) (hp : post 0) : wpY_pair post u x := by
  obtain ⟨wr, kn, md, op, st, ps, bs, co, ef, th, ta, de, sp, li, ch, ga, pl, be⟩ := u
  rcases h with h | h
  · exact br_t h hp
  · exact br_f (xr_pos h (by decide)) (br_t (xr_lt_le (by decide) h) hp)
theorem xw_pair {post : Int32 → Prop} {c : Nat} (hc : c < 1024) (hp : post 1) : wpX_isFactPair post (nI c) :=
  br_f (nI_pos (by omega)) (br_f (nI_ge (b := 1024) hc (by decide)) hp)
theorem yw_pair {post : Int32 → Prop} {u : SY} {c : Nat} (hc : c < 1024) (hp : post 1) : wpY_pair post u (nI c) := by
  obtain ⟨wr, kn, md, op, st, ps, bs, co, ef, th, ta, de, sp, li, ch, ga, pl, be⟩ := u
  exact br_f (nI_pos (by omega)) (br_f (nI_nlt (a := 1023) (b := c) (by omega) (by decide)) hp)
theorem xw_isAction0 {post : Int32 → Prop} {x : Int32} (h : x < 0 ∨ nI 6 ≤ x) (hp : post 0) : wpX_isAction post x := by
  rcases h with h | h
  · exact br_t h hp
  · exact br_f (xr_pos h (by decide)) (br_t h hp)
theorem xw_isAction {post : Int32 → Prop} {a : Nat} (ha : a < 6) (hp : post 1) : wpX_isAction post (nI a) :=
  br_f (nI_pos (by omega)) (br_f (nI_ge (b := 6) ha (by decide)) hp)
theorem xw_has0 {post : Int32 → Prop} (ms ll : Int32) (ac ae mt mc mf sd li wc sa pa : Nat → Int32) (fp : Nat → Int64) {x : Int32} (h : x < 0 ∨ nI 8 ≤ x) (hp : post 0) : wpX_hasMethod post (ms, ll, ac, ae, mt, mc, mf, sd, li, wc, fp, sa, pa) x := by
  rcases h with h | h
  · exact br_t h hp
  · exact br_f (xr_pos h (by decide)) (br_t h hp)
/-- steps -/
theorem xw_isStepOf {post : Int32 → Prop} {t f : Nat} (ht : t < 4) (hf : f < 16) (h1 : mp_sv t f → post 1) (h0 : ¬ mp_sv t f → post 0) : wpX_isStepOf post (nI t) (nI f) := by
  unfold mp_sv at h1 h0
  have e8 : (8 : Int32) + nI t = nI (8 + t) := nI_add 8 t
  unfold wpX_isStepOf
  rw [e8]
  refine pk_le 8 f (fun a => pk_le f (8 + t) (fun b => h0 (by omega)) (fun b => pk_le 12 f (fun c => h0 (by omega)) (fun c => h1 (by omega)))) (fun a => br_f (nI_pos (by omega)) (pk_le 7 f (fun c => h0 (by omega)) (fun c => h1 (by omega))))
theorem yw_step {post : Int32 → Prop} {u : SY} {t f : Nat} (ht : t < 4) (hf : f < 16) (h1 : mp_sv t f → post 1) (h0 : ¬ mp_sv t f → post 0) : wpY_step post u (nI t) (nI f) := by
  obtain ⟨wr, kn, md, op, st, ps, bs, co, ef, th, ta, de, sp, li, ch, ga, pl, be⟩ := u
  unfold mp_sv at h1 h0
  have e8 : (8 : Int32) + nI t = nI (8 + t) := nI_add 8 t
  refine br_f (nI_pos (by omega)) (pk_le f 6 (fun a => h1 (by omega)) (fun a => ?_))
  unfold wY_step_10
  rw [e8]
  exact pk_le f (8 + t) (fun b => h0 (by omega)) (fun b => pk_lt 11 f (fun c => h0 (by omega)) (fun c => h1 (by omega)))
/-- the set as the reference tells it -/
theorem mp_dz_bt (b : Nat → Bool) : ∀ (k c : Nat) (a : Int32) (i : Nat), c + k ≤ 32 → i < 32 → bt (mp_dz b k c a) i = (bt a i || (decide (c ≤ i ∧ i < c + k) && b i))
  | 0, c, a, i, _, _ => by
    show bt a i = _
    rw [decide_eq_false (by omega), Bool.false_and, Bool.or_false]
  | k + 1, c, a, i, h, hi => by
    show bt (mp_dz b k (c + 1) (if b c then a ||| ((1 : Int32) <<< (nI c &&& 31)) else a)) i = _
    rw [mp_dz_bt b k (c + 1) _ i (by omega) hi]
    by_cases z : i = c
    · subst z
      rw [decide_eq_false (by omega : ¬ (i + 1 ≤ i ∧ i < i + 1 + k)), decide_eq_true (by omega : i ≤ i ∧ i < i + (k + 1)), Bool.false_and, Bool.or_false, Bool.true_and]
      cases e : b i
      · simp
      · rw [if_pos rfl, b_or, xw_one hi hi, decide_eq_true rfl]
    · have e1 : bt (if b c then a ||| ((1 : Int32) <<< (nI c &&& 31)) else a) i = bt a i := by
        cases e : b c
        · rfl
        · rw [if_pos rfl, b_or, xw_one (by omega) hi, decide_eq_false z, Bool.or_false]
      rw [e1]
      by_cases y : c ≤ i ∧ i < c + (k + 1)
      · rw [decide_eq_true y, decide_eq_true (by omega : c + 1 ≤ i ∧ i < c + 1 + k)]
      · rw [decide_eq_false y, decide_eq_false (by omega : ¬ (c + 1 ≤ i ∧ i < c + 1 + k))]
theorem xw_MS_dz {ms : Int32} {th : Nat → Int32} (h : xw_MS ms th) : mp_dz (fun m => decide (¬ th m = 0)) 8 0 0 = ms := by
  apply b_ext
  intro i hi
  rw [mp_dz_bt _ 8 0 0 i (by omega) hi, h i hi, b_0, Bool.false_or]
  congr 1
  by_cases y : i < 8
  · rw [decide_eq_true y, decide_eq_true (by omega : 0 ≤ i ∧ i < 0 + 8)]
  · rw [decide_eq_false y, decide_eq_false (by omega : ¬ (0 ≤ i ∧ i < 0 + 8))]
theorem xw_MS_set {ms : Int32} {th : Nat → Int32} {m : Nat} (hm : m < 8) (h : xw_MS ms th) : xw_MS (ms ||| ((1 : Int32) <<< (nI m &&& 31))) (upd th m 1) := by
  intro i hi
  rw [b_or, xw_one (by omega) hi, h i hi]
  by_cases y : i = m
  · subst y
    rw [pk_us, decide_eq_true hm, decide_eq_true rfl]
    simp
  · rw [pk_un y, decide_eq_false y, Bool.or_false]
theorem xw_MS_clr {ms : Int32} {th : Nat → Int32} {m : Nat} (hm : m < 8) (h : xw_MS ms th) : xw_MS (ms &&& (((1 : Int32) <<< (nI m &&& 31)) ^^^ (-1))) (upd th m 0) := by
  intro i hi
  rw [b_and, b_xor, xw_one (by omega) hi, b_m1 i hi, h i hi]
  by_cases y : i = m
  · subst y
    rw [pk_us, decide_eq_true rfl]
    simp
  · rw [pk_un y, decide_eq_false y]
    simp
/-- tables of equal ways -/
theorem xw_tv_congr {P P' : mp_PB} {v : Nat} {wc : Nat → Int32} {fp : Nat → Int64} (h : xw_tv P v wc fp) (e : ∀ s, mp_ws P' v s = mp_ws P v s) : xw_tv P' v wc fp := by
  intro s hs i hi
  unfold mp_cn
  rw [e s]
  exact h s hs i hi
theorem xw_ws6 {ac ae th mt mc sp ac' ae' th' mt' mc' sp' : Nat → Int32} {v : Nat} (hv : v ≤ 6) (h : ∀ a, v = 1 + a → ac' a = ac a ∧ ae' a = ae a) (s : Nat) : mp_ws (yp_P ac' ae' th' mt' mc' sp') v s = mp_ws (yp_P ac ae th mt mc sp) v s := by
  by_cases z : v = 0
  · subst z
    rw [mp_ws0, mp_ws0]
  · have e1 := mp_wsa (yp_P ac' ae' th' mt' mc' sp') s z (by omega)
    have e2 := mp_wsa (yp_P ac ae th mt mc sp) s z (by omega)
    obtain ⟨h1, h2⟩ := h (v - 1) (by omega)
    have g1 : mp_hol (yp_P ac' ae' th' mt' mc' sp') (v - 1) s = mp_hol (yp_P ac ae th mt mc sp) (v - 1) s := by
      show yp_hI (ac' (v - 1)) s = yp_hI (ac (v - 1)) s
      rw [h1]
    have g2 : mp_out (yp_P ac' ae' th' mt' mc' sp') (v - 1) s = mp_out (yp_P ac ae th mt mc sp) (v - 1) s := by
      show yp_chg (ae' (v - 1)) s = yp_chg (ae (v - 1)) s
      rw [h2]
    rw [e1, e2, g1, g2]
theorem xw_rmP {ac ae th mt mc sp : Nat → Int32} (m : Nat) : yp_P ac ae (upd th m 0) mt mc sp = mp_rm (yp_P ac ae th mt mc sp) m := by
  unfold yp_P mp_rm
  congr 2
  congr 1
  funext t i s
  by_cases e : i = m
  · subst e
    rw [pk_us]
    simp
  · rw [pk_un e]
    simp [e]
/-- plans alike in number are alike -/
theorem mp_en_eq {p q : List Nat} (hp : mp_pg p) (hq : mp_pg q) (h : mp_en p = mp_en q) : p.length = q.length := by
  have h1 := mp_dg_16 hp.2 hp.1
  have h2 := mp_dg_16 hq.2 hq.1
  unfold mp_en at h
  omega
theorem mp_digit {b : List Nat} (hb : mp_pg b) {i : Nat} (hi : i < b.length) : mp_en b / 2 ^ (3 * (b.length - 1 - i)) % 8 = b[i] := by
  have hl := hb.1
  have e : b = b.take i ++ (b[i] :: b.drop (i + 1)) := by
    rw [← List.drop_eq_getElem_cons hi, List.take_append_drop]
  have hdl : (b.drop (i + 1)).length = b.length - 1 - i := by
    rw [List.length_drop]
    omega
  have hlt := mp_dg_lt (b.drop (i + 1)) (fun a ha => hb.2 a (List.mem_of_mem_drop ha))
  have hd8 := hb.2 b[i] (List.getElem_mem hi)
  rw [hdl] at hlt
  have ed : mp_dg b = mp_dg (b.take i) * 8 ^ (b.length - 1 - i + 1) + (b[i] * 8 ^ (b.length - 1 - i) + mp_dg (b.drop (i + 1))) := by
    have h1 := mp_dg_app (b.take i) (b[i] :: b.drop (i + 1))
    rw [← e] at h1
    have h2 : (b[i] :: b.drop (i + 1)).length = b.length - 1 - i + 1 := by
      show (b.drop (i + 1)).length + 1 = _
      rw [hdl]
    rw [h2] at h1
    have h3 : mp_dg (b[i] :: b.drop (i + 1)) = b[i] * 8 ^ (b.drop (i + 1)).length + mp_dg (b.drop (i + 1)) := rfl
    rw [h3, hdl] at h1
    exact h1
  generalize hj : b.length - 1 - i = j at *
  have h48 : (2 : Nat) ^ 48 = 8 ^ (15 - j) * 8 * 8 ^ j := by
    have : (2 : Nat) ^ 48 = 8 ^ 16 := by decide
    rw [this, ← Nat.pow_succ, ← Nat.pow_add]
    congr 1
    omega
  have e8 : (2 : Nat) ^ (3 * j) = 8 ^ j := by
    rw [Nat.pow_mul]
  have een : mp_en b = mp_dg (b.drop (i + 1)) + ((b.length * 8 ^ (15 - j) + mp_dg (b.take i)) * 8 + b[i]) * 8 ^ j := by
    unfold mp_en
    rw [ed, h48, Nat.pow_succ]
    generalize mp_dg (b.take i) = A
    generalize mp_dg (b.drop (i + 1)) = D
    generalize 8 ^ (15 - j) = C
    generalize 8 ^ j = M
    generalize b.length = L
    generalize b[i] = x
    have q1 : L * (C * 8 * M) = L * C * 8 * M := by
      rw [← Nat.mul_assoc, ← Nat.mul_assoc]
    have q2 : A * (M * 8) = A * 8 * M := by
      rw [Nat.mul_comm M 8, ← Nat.mul_assoc]
    rw [q1, q2, Nat.add_mul, Nat.add_mul, Nat.add_mul]
    omega
  rw [een, e8, Nat.add_mul_div_right _ _ (Nat.pow_pos (by decide)), Nat.div_eq_of_lt hlt, Nat.zero_add]
  omega
theorem xw_digit {b : List Nat} (hb : mp_pg b) {i : Nat} (hi : i < b.length) : ((lN (mp_en b) >>> ((nI (3 * (b.length - 1 - i))).toInt64 &&& 63)).toInt32) &&& 7 = nI b[i] := by
  have hl := hb.1
  have hen := mp_en_b hb
  have hc := wb_c (3 * (b.length - 1 - i)) (by omega)
  have hD : (((nI (3 * (b.length - 1 - i))).toInt64 &&& 63).toBitVec.smod 64).toNat = 3 * (b.length - 1 - i) := by
    rw [hc, wb_tb, wb_sm _ (by omega), BitVec.toNat_ofNat]
    exact Nat.mod_eq_of_lt (by omega)
  rw [pf_shr hD (by omega), lN_i, pk_and _ 3 (by decide)]
  congr 1
  have e : (nI (mp_en b / 2 ^ (3 * (b.length - 1 - i)))).toBitVec.toNat = (mp_en b / 2 ^ (3 * (b.length - 1 - i))) % 2 ^ 32 := by
    show (BitVec.ofNat 32 _).toNat = _
    rw [BitVec.toNat_ofNat]
  rw [e]
  have := mp_digit hb hi
  omega
