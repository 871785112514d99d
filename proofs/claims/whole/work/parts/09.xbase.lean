/-- bits -/
theorem xw_and_not (a s : Int32) : (a &&& (s ^^^ (-1))) = 0 ↔ (s &&& a) = a := by
  constructor
  · intro h
    apply b_ext
    intro i hi
    have h1 : bt (a &&& (s ^^^ (-1))) i = false := by rw [h]; exact b_0 i
    rw [b_and, b_xor, b_m1 i hi] at h1
    rw [b_and]
    revert h1
    generalize bt a i = x
    generalize bt s i = y
    revert x y
    decide
  · intro h
    apply b_ext
    intro i hi
    have h1 : bt (s &&& a) i = bt a i := by rw [h]
    rw [b_and] at h1
    rw [b_and, b_xor, b_m1 i hi, b_0]
    revert h1
    generalize bt a i = x
    generalize bt s i = y
    revert x y
    decide
theorem xw_and_comm (a b : Int32) : a &&& b = b &&& a := by
  apply b_ext
  intro i _
  rw [b_and, b_and, Bool.and_comm]
theorem xw_b1 : ∀ i, i < 32 → bt 1 i = decide (i = 0) := by decide
theorem xw_bit (x : Int32) {m : Nat} (hm : m < 32) : ((x >>> (nI m &&& 31)) &&& 1) = 0 ↔ bt x m = false := by
  constructor
  · intro h
    have h1 : bt ((x >>> (nI m &&& 31)) &&& 1) 0 = false := by rw [h]; exact b_0 0
    rw [b_and, b_sshr m hm x (by decide), xw_b1 0 (by decide), Nat.add_zero, if_pos hm] at h1
    simpa using h1
  · intro h
    apply b_ext
    intro i hi
    rw [b_and, b_0, xw_b1 i hi, b_sshr m hm x hi]
    by_cases z : i = 0
    · subst z
      rw [Nat.add_zero, if_pos hm, h]
      rfl
    · rw [decide_eq_false z, Bool.and_false]
theorem xw_one {m i : Nat} (hm : m < 32) (hi : i < 32) : bt ((1 : Int32) <<< (nI m &&& 31)) i = decide (i = m) := by
  rw [b_shl m hm 1 hi]
  by_cases h : m ≤ i
  · rw [decide_eq_true h, xw_b1 _ (by omega), Bool.true_and]
    by_cases z : i = m
    · rw [decide_eq_true z, decide_eq_true (by omega)]
    · rw [decide_eq_false z, decide_eq_false (by omega)]
  · rw [decide_eq_false h, decide_eq_false (by omega), Bool.false_and]
theorem xw_holds {post : Int32 → Prop} {c : Int32} {s : Nat} (h : post (if yp_hI c s then 1 else 0)) : wpX_holds post c (nI s) := by
  unfold yp_hI at h
  refine nm_e (nm_e ?_)
  have e1 := xw_and_not (c &&& 31) (nI s)
  have e2 := xw_and_comm (c >>> ((5 : Int32) &&& 31)) (nI s)
  rw [e2] at h
  refine br_c (fun h1 => br_c (fun h2 => ?_) (fun h2 => ?_)) (fun h1 => ?_)
  · rw [decide_eq_true (e1.mpr h1), decide_eq_true h2] at h
    exact h
  · rw [decide_eq_true (e1.mpr h1), decide_eq_false h2] at h
    exact h
  · rw [decide_eq_false (fun z => h1 (e1.mp z))] at h
    exact h
theorem xw_outcome {post : Int32 → Prop} (ms ll : Int32) (ac ae mt mc mf sd li wc sa pa : Nat → Int32) (fp : Nat → Int64) {a s : Nat} (ha : a < 6) (hs : s < 32) (h : post (if yp_hI (ac a) s then nI (yp_chg (ae a) s) else -1)) : wpX_outcome post (ms, ll, ac, ae, mt, mc, mf, sd, li, wc, fp, sa, pa) (nI a) (nI s) := by
  have hi : vp_in (nI a) 6 := vp_in_nI ha (by decide)
  have hc : (nI a).toNatClampNeg = a := nI_clamp (by omega)
  refine ⟨hi, ?_⟩
  rw [hc]
  apply xw_holds
  by_cases x : yp_hI (ac a) s = true
  · rw [if_pos x] at h ⊢
    refine br_f (by decide) ⟨hi, nm_e ⟨hi, nm_e ?_⟩⟩
    show post (yp_ex (ae a) s)
    rw [(yp_ex_eq (ae a) hs).1]
    exact h
  · rw [if_neg x] at h ⊢
    exact br_t rfl h
theorem xw_row (v s : Nat) : (nI v * 32 + nI s) * 32 = nI ((v * 32 + s) * 32) := by
  rw [show (32 : Int32) = nI 32 from rfl, pk_mul, nI_add, pk_mul]
theorem xw_rowOf {post : Int32 → Prop} {v s : Nat} (h : post (nI ((v * 32 + s) * 32))) : wpX_rowOf post (nI v) (nI s) := by
  show post _
  rw [xw_row]
  exact h
/-- the set of methods -/
def xw_MS (ms : Int32) (th : Nat → Int32) : Prop := ∀ i, i < 32 → bt ms i = (decide (i < 8) && decide (¬ th i = 0))
theorem xw_has {post : Int32 → Prop} (ms ll : Int32) (ac ae mt mc mf sd li wc sa pa : Nat → Int32) (fp : Nat → Int64) {th : Nat → Int32} {m : Nat} (hms : xw_MS ms th) (hm : m < 8) (h : post (if th m = 0 then 0 else 1)) : wpX_hasMethod post (ms, ll, ac, ae, mt, mc, mf, sd, li, wc, fp, sa, pa) (nI m) := by
  have hb := hms m (by omega)
  rw [decide_eq_true hm, Bool.true_and] at hb
  refine br_f (nI_pos (by omega)) (br_f (nI_ge (b := 8) (by omega) (by decide)) ?_)
  by_cases z : th m = 0
  · rw [if_pos z] at h
    refine br_t ((xw_bit ms (by omega)).mpr ?_) h
    rw [hb]
    exact decide_eq_false (fun f => f z)
  · rw [if_neg z] at h
    refine br_f (fun f => ?_) h
    have := (xw_bit ms (by omega)).mp f
    rw [hb, decide_eq_true z] at this
    exact nomatch this
/-- a cell of the tables -/
def xw_ce (c : Int32) (f : Int64) (n : Nat) (S : List Nat → Prop) : Prop := c = nI n ∧ (n = 0 → ∀ q, ¬ S q) ∧ (0 < n → ∃ q, S q ∧ f = lN (mp_en q) ∧ ∀ q', S q' → mp_en q ≤ mp_en q')
theorem xw_ce_congr {c : Int32} {f : Int64} {n n' : Nat} {S S' : List Nat → Prop} (h : xw_ce c f n S) (hn : n = n') (hS : ∀ q, S q ↔ S' q) : xw_ce c f n' S' := by
  subst hn
  obtain ⟨h1, h2, h3⟩ := h
  refine ⟨h1, fun z q hq => h2 z q ((hS q).mpr hq), fun z => ?_⟩
  obtain ⟨q, q1, q2, q3⟩ := h3 z
  exact ⟨q, (hS q).mp q1, q2, fun q' hq' => q3 q' ((hS q').mpr hq')⟩
def xw_tv (P : mp_PB) (v : Nat) (wc : Nat → Int32) (fp : Nat → Int64) : Prop := ∀ s, s < 32 → ∀ e, e < 32 → xw_ce (wc ((v * 32 + s) * 32 + e)) (fp ((v * 32 + s) * 32 + e)) (mp_cn P v s e) (fun q => (e, q) ∈ mp_ws P v s)
def xw_fr (r : Nat) (wc0 wc : Nat → Int32) (fp0 fp : Nat → Int64) : Prop := ∀ j, (j < r ∨ r + 32 ≤ j) → wc j = wc0 j ∧ fp j = fp0 j
theorem xw_clear2 {post : SX → Prop} (ms ll : Int32) (ac ae mt mc mf sd li sa pa : Nat → Int32) {r : Nat} (hr : r + 32 ≤ 12288) (wc0 : Nat → Int32) (fp0 : Nat → Int64) : ∀ (k e F : Nat) (wc : Nat → Int32) (fp : Nat → Int64), e + k = 32 → k < F → (∀ i, i < e → wc (r + i) = 0) → xw_fr r wc0 wc fp0 fp →
    (∀ (wc : Nat → Int32) (fp : Nat → Int64), (∀ i, i < 32 → wc (r + i) = 0) → xw_fr r wc0 wc fp0 fp → post (ms, ll, ac, ae, mt, mc, mf, sd, li, wc, fp, sa, pa)) → wX_clearRow_2 post (nI r) ms ll F (nI e) ac ae mt mc mf sd li wc fp sa pa := by
  intro k
  induction k with
  | zero =>
    intro e F wc fp h1 hF h2 h3 H
    obtain ⟨F, rfl⟩ : ∃ n, F = n + 1 := ⟨F - 1, by omega⟩
    exact br_t (nI_le (a := 32) (by omega) (by omega)) (H wc fp (fun i hi => h2 i (by omega)) h3)
  | succ k ih =>
    intro e F wc fp h1 hF h2 h3 H
    obtain ⟨F, rfl⟩ : ∃ n, F = n + 1 := ⟨F - 1, by omega⟩
    refine br_f (nI_ge (b := 32) (by omega) (by decide)) ?_
    rw [nI_add, nI_clamp (by omega : r + e < 2 ^ 31)]
    have hin : vp_in (nI (r + e)) 12288 := vp_in_nI (by omega) (by decide)
    refine ⟨hin, nm_e ⟨hin, nm_e (nm_r (nI_1 _) (ih (e + 1) F _ _ (by omega) (by omega) ?_ ?_ H))⟩⟩
    · intro i hi
      by_cases z : i = e
      · subst z
        exact pk_us
      · exact (pk_un (by omega)).trans (h2 i (by omega))
    · intro j hj
      have := h3 j hj
      exact ⟨(pk_un (by omega)).trans this.1, (pk_uLn (by omega)).trans this.2⟩
theorem xw_clear {post : SX → Prop} (ms ll : Int32) (ac ae mt mc mf sd li wc sa pa : Nat → Int32) (fp : Nat → Int64) {r : Nat} (hr : r + 32 ≤ 12288) (H : ∀ (wc' : Nat → Int32) (fp' : Nat → Int64), (∀ i, i < 32 → wc' (r + i) = 0) → xw_fr r wc wc' fp fp' → post (ms, ll, ac, ae, mt, mc, mf, sd, li, wc', fp', sa, pa)) : wpX_clearRow post (ms, ll, ac, ae, mt, mc, mf, sd, li, wc, fp, sa, pa) (nI r) :=
  ⟨33, xw_clear2 _ _ _ _ _ _ _ _ _ _ _ hr wc fp 32 0 33 wc fp (by omega) (by omega) (fun i hi => by omega) (fun j _ => ⟨rfl, rfl⟩) H⟩
/-- plans as longs -/
theorem xw_len {q : List Nat} (hq : mp_pg q) : (lN (mp_en q) >>> ((48 : Int32).toInt64 &&& 63)).toInt32 = nI q.length := by
  have hb := mp_en_b hq
  have h1 := mp_dg_16 hq.2 hq.1
  rw [pf_shr (d := 48) (by decide) (by omega), lN_i]
  congr 1
  unfold mp_en
  omega
theorem xw_mask {q : List Nat} (hq : mp_pg q) : lN (mp_en q) &&& 281474976710655 = lN (mp_dg q) := by
  have hb := mp_en_b hq
  have h1 := mp_dg_16 hq.2 hq.1
  have e := wb_mask (n := mp_en q) (k := 48) (by omega) (by decide)
  have e2 : mp_en q % 2 ^ 48 = mp_dg q := by
    unfold mp_en
    omega
  rw [e2] at e
  exact e
theorem xw_joined {post : Int64 → Prop} {p q : List Nat} (hp : mp_pg p) (hq : mp_pg q) (hl : p.length + q.length ≤ 16) (h : post (lN (mp_en (p ++ q)))) : wpX_joined post (lN (mp_en p)) (lN (mp_en q)) := by
  show wpX_lengthOf _ _
  unfold wpX_lengthOf
  rw [xw_len hp, xw_len hq]
  refine nm_e (nm_e ?_)
  rw [xw_mask hp, xw_mask hq, nI_add, nI_l (by omega)]
  have e3 : (3 : Int32) * nI q.length = nI (3 * q.length) := pk_mul 3 q.length
  have e8 : 2 ^ (3 * q.length) = 8 ^ q.length := by
    rw [Nat.pow_mul]
  have hd := mp_dg_lt q hq.2
  have hpq := mp_pg_app hp hq hl
  have h16 := mp_dg_16 hpq.2 hpq.1
  have hap := mp_dg_app p q
  have hb := mp_en_b hpq
  have e48 : lN (p.length + q.length) <<< ((48 : Int32).toInt64 &&& 63) = lN ((p.length + q.length) * 2 ^ 48) := wb_shl _ (k := 48) (by decide)
  rw [e3, wb_shl _ (by omega), e48]
  rw [g_or (k := 3 * q.length) rfl (by rw [e8]; exact hd) (by rw [e8]; omega)]
  rw [e8, ← hap]
  have e4 : mp_en (p ++ q) = (p.length + q.length) * 2 ^ 48 + mp_dg (p ++ q) := by
    unfold mp_en
    rw [List.length_append]
  rw [g_or (k := 48) rfl h16 (by omega), ← e4]
  exact h
theorem xw_addWays {post : SX → Prop} (ms ll : Int32) (ac ae mt mc mf sd li wc sa pa : Nat → Int32) (fp : Nat → Int64) {i n k : Nat} {S T : List Nat → Prop} {r : List Nat} (hi : i < 12288) (hce : xw_ce (wc i) (fp i) n S) (hn : n + k < 2 ^ 31) (hk : 0 < k) (hr : mp_pg r) (hS : ∀ q, S q → mp_pg q) (hT : T r) (hm : ∀ q, T q → mp_en r ≤ mp_en q)
    (H : ∀ (wc' : Nat → Int32) (fp' : Nat → Int64), xw_ce (wc' i) (fp' i) (n + k) (fun q => S q ∨ T q) → (∀ j, j ≠ i → wc' j = wc j ∧ fp' j = fp j) → post (ms, ll, ac, ae, mt, mc, mf, sd, li, wc', fp', sa, pa)) :
    wpX_addWays post (ms, ll, ac, ae, mt, mc, mf, sd, li, wc, fp, sa, pa) (nI i) (nI k) (lN (mp_en r)) := by
  obtain ⟨c1, c2, c3⟩ := hce
  have hin : vp_in (nI i) 12288 := vp_in_nI hi (by decide)
  have hc : (nI i).toNatClampNeg = i := nI_clamp (by omega)
  have b := mp_en_b hr
  have fin : ∀ fp' : Nat → Int64, (∀ j, j ≠ i → fp' j = fp j) → (∃ q, (S q ∨ T q) ∧ fp' i = lN (mp_en q) ∧ ∀ q', (S q' ∨ T q') → mp_en q ≤ mp_en q') → wX_addWays_27 post (nI i) (nI k) ms ll ac ae mt mc mf sd li wc fp' sa pa := by
    intro fp' hf hq
    refine ⟨hin, hin, ?_⟩
    rw [hc, c1, nI_add]
    refine nm_e (H _ fp' ⟨pk_us, fun z => by omega, fun _ => hq⟩ (fun j hj => ⟨pk_un hj, hf j hj⟩))
  have put : (∀ q, S q → mp_en r ≤ mp_en q) → wX_addWays_20 post (nI i) (nI k) (lN (mp_en r)) ms ll ac ae mt mc mf sd li wc fp sa pa := by
    intro hSr
    refine ⟨hin, ?_⟩
    rw [hc]
    refine nm_e (fin _ (fun j hj => pk_uLn hj) ⟨r, Or.inr hT, pk_uLs, fun q' hq' => ?_⟩)
    rcases hq' with hq' | hq'
    · exact hSr q' hq'
    · exact hm q' hq'
  refine ⟨hin, ?_⟩
  rw [hc, c1]
  refine pk_eq n 0 (fun z => put (fun q hq => absurd hq (c2 z q))) (fun z => ⟨hin, ?_⟩)
  obtain ⟨q, q1, q2, q3⟩ := c3 (by omega)
  have bq := mp_en_b (hS q q1)
  rw [q2]
  have hle := pk_lLE (a := mp_en q) (b := mp_en r) (by omega) (by omega)
  refine br_c (fun y => fin fp (fun j _ => rfl) ⟨q, Or.inl q1, q2, fun q' hq' => ?_⟩) (fun y => put (fun q' hq' => ?_))
  · have := hle.mp y
    rcases hq' with hq' | hq'
    · exact q3 q' hq'
    · have := hm q' hq'
      omega
  · have : ¬ mp_en q ≤ mp_en r := fun z => y (hle.mpr z)
    have := q3 q' hq'
    omega
