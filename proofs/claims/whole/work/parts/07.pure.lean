theorem mp_fl_mem {α : Type} {g : Nat → List α} {x : α} : ∀ {k c : Nat}, x ∈ mp_fl g k c ↔ ∃ m, c ≤ m ∧ m < c + k ∧ x ∈ g m
  | 0, c => by
    constructor
    · intro h; exact nomatch h
    · rintro ⟨m, h1, h2, _⟩; omega
  | k + 1, c => by
    show x ∈ g c ++ mp_fl g k (c + 1) ↔ _
    rw [List.mem_append, mp_fl_mem]
    constructor
    · rintro (h | ⟨m, h1, h2, h3⟩)
      · exact ⟨c, Nat.le_refl c, by omega, h⟩
      · exact ⟨m, by omega, by omega, h3⟩
    · rintro ⟨m, h1, h2, h3⟩
      by_cases e : m = c
      · subst e; exact Or.inl h3
      · exact Or.inr ⟨m, by omega, by omega, h3⟩
theorem mp_pr_mem {L : List (Nat × List Nat)} {G : Nat → List (Nat × List Nat)} {x : Nat × List Nat} : x ∈ mp_pr L G ↔ ∃ b p q, (b, p) ∈ L ∧ (x.1, q) ∈ G b ∧ x.2 = p ++ q := by
  unfold mp_pr
  rw [List.mem_flatMap]
  constructor
  · rintro ⟨⟨b, p⟩, h1, h2⟩
    rw [List.mem_map] at h2
    obtain ⟨⟨e, q⟩, h3, h4⟩ := h2
    subst h4
    exact ⟨b, p, q, h1, h3, rfl⟩
  · rintro ⟨b, p, q, h1, h2, h3⟩
    refine ⟨(b, p), h1, ?_⟩
    rw [List.mem_map]
    refine ⟨(x.1, q), h2, ?_⟩
    obtain ⟨e, r⟩ := x
    dsimp only at h3 ⊢
    rw [h3]
theorem mp_run_app (P : mp_PB) : ∀ (p q : List Nat) (s : Nat), mp_run P (p ++ q) s = (mp_run P p s).bind (mp_run P q)
  | [], q, s => rfl
  | a :: p, q, s => by
    show (if mp_hol P a s then mp_run P (p ++ q) (mp_out P a s) else none) = (if mp_hol P a s then mp_run P p (mp_out P a s) else none).bind _
    rw [mp_run_app P p q]
    cases mp_hol P a s <;> rfl
def mp_good (P : mp_PB) (v s : Nat) (x : Nat × List Nat) : Prop := x.1 < 32 ∧ x.2.length ≤ mp_an v ∧ (∀ a, a ∈ x.2 → a < 6) ∧ mp_run P x.2 s = some x.1
theorem mp_wd_good {P : mp_PB} (ok : mp_ok P) : ∀ (d v s : Nat) (x : Nat × List Nat), v ≤ 11 → v ≠ 7 → s < 32 → x ∈ mp_wd P d v s → mp_good P v s x
  | 0, _, _, _, _, _, _, h => nomatch h
  | d + 1, v, s, x, hv, h7, hs, h => by
    have h' : x ∈ (if v = 0 then [(s, [])] else if v < 8 then (if mp_hol P (v - 1) s then [(mp_out P (v - 1) s, [v - 1])] else [])
      else mp_fl (fun m => if mp_app P (v - 8) m s then mp_pr (mp_wd P d (mp_fs P m) s) (mp_wd P d (mp_sn P m)) else []) 8 0) := h
    by_cases z : v = 0
    · rw [if_pos z, List.mem_singleton] at h'
      subst h'
      exact ⟨hs, Nat.zero_le _, fun a ha => (nomatch ha), rfl⟩
    · rw [if_neg z] at h'
      by_cases w : v < 8
      · rw [if_pos w] at h'
        by_cases y : mp_hol P (v - 1) s = true
        · rw [if_pos y, List.mem_singleton] at h'
          subst h'
          refine ⟨ok.1 _ _ (by omega) hs, mp_an_pos v, fun a ha => ?_, ?_⟩
          · rw [List.mem_singleton] at ha
            omega
          · show (if mp_hol P (v - 1) s then some _ else none) = _
            rw [if_pos y]
        · rw [if_neg y] at h'
          exact nomatch h'
      · rw [if_neg w, mp_fl_mem] at h'
        obtain ⟨m, _, hm, hx⟩ := h'
        by_cases y : mp_app P (v - 8) m s = true
        · rw [if_pos y, mp_pr_mem] at hx
          obtain ⟨b, p, q, h1, h2, h3⟩ := hx
          obtain ⟨t, ht, rfl⟩ : ∃ t, t < 4 ∧ v = 8 + t := ⟨v - 8, by omega, by omega⟩
          have et : 8 + t - 8 = t := by omega
          rw [et] at y
          obtain ⟨k1, k2⟩ := ok.2 t m s ht (by omega) y
          have n1 := (mp_an_s ht k1).1
          have n2 := (mp_an_s ht k2).1
          unfold mp_sv at k1 k2
          obtain ⟨a1, a2, a3, a4⟩ := mp_wd_good ok d _ s (b, p) (by omega) (by omega) hs h1
          obtain ⟨b1, b2, b3, b4⟩ := mp_wd_good ok d _ b (x.1, q) (by omega) (by omega) a1 h2
          refine ⟨b1, ?_, ?_, ?_⟩
          · rw [h3, List.length_append]
            dsimp only at a2 b2
            omega
          · intro a ha
            rw [h3, List.mem_append] at ha
            rcases ha with ha | ha
            · exact a3 a ha
            · exact b3 a ha
          · rw [h3, mp_run_app, a4]
            exact b4
        · rw [if_neg y] at hx
          exact nomatch hx
theorem mp_ws_good {P : mp_PB} (ok : mp_ok P) {v s : Nat} {x : Nat × List Nat} (hv : v ≤ 11) (h7 : v ≠ 7) (hs : s < 32) (h : x ∈ mp_ws P v s) : mp_good P v s x := mp_wd_good ok 5 v s x hv h7 hs h
/-- sums -/
def mp_su (f : Nat → Nat) : Nat → Nat
  | 0 => 0
  | n + 1 => mp_su f n + f n
theorem mp_su_congr {f g : Nat → Nat} : ∀ {n : Nat}, (∀ i, i < n → f i = g i) → mp_su f n = mp_su g n
  | 0, _ => rfl
  | n + 1, h => by
    show mp_su f n + f n = mp_su g n + g n
    rw [mp_su_congr (fun i hi => h i (by omega)), h n (by omega)]
theorem mp_su_le {f g : Nat → Nat} : ∀ {n : Nat}, (∀ i, i < n → f i ≤ g i) → mp_su f n ≤ mp_su g n
  | 0, _ => Nat.le_refl _
  | n + 1, h => Nat.add_le_add (mp_su_le (fun i hi => h i (by omega))) (h n (by omega))
theorem mp_su_add (f g : Nat → Nat) : ∀ n, mp_su (fun i => f i + g i) n = mp_su f n + mp_su g n
  | 0 => rfl
  | n + 1 => by
    show mp_su (fun i => f i + g i) n + (f n + g n) = mp_su f n + f n + (mp_su g n + g n)
    rw [mp_su_add f g n]
    omega
theorem mp_su_0 : ∀ n, mp_su (fun _ => 0) n = 0
  | 0 => rfl
  | n + 1 => by
    show mp_su (fun _ => 0) n + 0 = 0
    rw [mp_su_0 n]
theorem mp_su_mono (f : Nat → Nat) {m : Nat} : ∀ {n : Nat}, m ≤ n → mp_su f m ≤ mp_su f n
  | 0, h => by
    have : m = 0 := by omega
    rw [this]
    exact Nat.le_refl _
  | n + 1, h => by
    by_cases e : m = n + 1
    · rw [e]; exact Nat.le_refl _
    · exact Nat.le_trans (mp_su_mono f (n := n) (by omega)) (Nat.le_add_right _ _)
theorem mp_su_mem (f : Nat → Nat) {i n : Nat} (h : i < n) : f i ≤ mp_su f n :=
  Nat.le_trans (Nat.le_add_left (f i) (mp_su f i)) (mp_su_mono f (m := i + 1) h)
theorem mp_su_delta (i : Nat) (g : Nat → Nat) : ∀ n, mp_su (fun b => if i = b then g b else 0) n = if i < n then g i else 0
  | 0 => rfl
  | n + 1 => by
    show mp_su (fun b => if i = b then g b else 0) n + (if i = n then g n else 0) = _
    rw [mp_su_delta i g n]
    by_cases e : i = n
    · subst e
      rw [if_neg (Nat.lt_irrefl i), if_pos rfl, if_pos (Nat.lt_succ_self i), Nat.zero_add]
    · rw [if_neg e, Nat.add_zero]
      by_cases h : i < n
      · rw [if_pos h, if_pos (by omega)]
      · rw [if_neg h, if_neg (by omega)]
theorem mp_ct_app (e : Nat) : ∀ l l' : List (Nat × List Nat), mp_ct e (l ++ l') = mp_ct e l + mp_ct e l'
  | [], l' => by
    show mp_ct e l' = 0 + _
    omega
  | x :: l, l' => by
    show (if x.1 = e then 1 else 0) + mp_ct e (l ++ l') = (if x.1 = e then 1 else 0) + mp_ct e l + mp_ct e l'
    rw [mp_ct_app e l l']
    omega
theorem mp_fl_succ {α : Type} (g : Nat → List α) : ∀ k c, mp_fl g (k + 1) c = mp_fl g k c ++ g (c + k)
  | 0, c => by
    show g c ++ [] = [] ++ g c
    simp
  | k + 1, c => by
    show g c ++ mp_fl g (k + 1) (c + 1) = (g c ++ mp_fl g k (c + 1)) ++ _
    rw [mp_fl_succ g k (c + 1), List.append_assoc]
    have : c + 1 + k = c + (k + 1) := by omega
    rw [this]
theorem mp_ct_fl (e : Nat) (g : Nat → List (Nat × List Nat)) : ∀ k, mp_ct e (mp_fl g k 0) = mp_su (fun m => mp_ct e (g m)) k
  | 0 => rfl
  | k + 1 => by
    rw [mp_fl_succ, mp_ct_app, mp_ct_fl e g k, Nat.zero_add]
    rfl
theorem mp_len_fl {α : Type} (g : Nat → List α) : ∀ k, (mp_fl g k 0).length = mp_su (fun m => (g m).length) k
  | 0 => rfl
  | k + 1 => by
    rw [mp_fl_succ, List.length_append, mp_len_fl g k, Nat.zero_add]
    rfl
theorem mp_ct_map (e : Nat) (p : List Nat) : ∀ l : List (Nat × List Nat), mp_ct e (l.map (fun y => (y.1, p ++ y.2))) = mp_ct e l
  | [] => rfl
  | x :: l => by
    show (if x.1 = e then 1 else 0) + mp_ct e (l.map (fun y => (y.1, p ++ y.2))) = _
    rw [mp_ct_map e p l]
    rfl
theorem mp_ct_pr (e : Nat) (G : Nat → List (Nat × List Nat)) : ∀ L : List (Nat × List Nat), (∀ x, x ∈ L → x.1 < 32) → mp_ct e (mp_pr L G) = mp_su (fun b => mp_ct b L * mp_ct e (G b)) 32
  | [], _ => by
    show 0 = _
    exact ((mp_su_congr (f := fun b => mp_ct b [] * mp_ct e (G b)) (g := fun _ => 0) (fun i _ => Nat.zero_mul _)).trans (mp_su_0 32)).symm
  | x :: L, h => by
    have e1 : mp_pr (x :: L) G = (G x.1).map (fun y => (y.1, x.2 ++ y.2)) ++ mp_pr L G := rfl
    rw [e1, mp_ct_app, mp_ct_map, mp_ct_pr e G L (fun y hy => h y (List.mem_cons_of_mem _ hy))]
    have e2 : mp_su (fun b => mp_ct b (x :: L) * mp_ct e (G b)) 32 = mp_su (fun b => (if x.1 = b then mp_ct e (G b) else 0) + mp_ct b L * mp_ct e (G b)) 32 := by
      apply mp_su_congr
      intro b _
      show ((if x.1 = b then 1 else 0) + mp_ct b L) * mp_ct e (G b) = _
      rw [Nat.add_mul]
      by_cases z : x.1 = b
      · rw [if_pos z, if_pos z, Nat.one_mul]
      · rw [if_neg z, if_neg z, Nat.zero_mul]
    rw [e2, mp_su_add, mp_su_delta x.1 (fun b => mp_ct e (G b)) 32, if_pos (h x List.mem_cons_self)]
theorem mp_len_ct : ∀ L : List (Nat × List Nat), (∀ x, x ∈ L → x.1 < 32) → L.length = mp_su (fun e => mp_ct e L) 32
  | [], _ => by
    show 0 = _
    exact ((mp_su_congr (f := fun e => mp_ct e []) (g := fun _ => 0) (fun i _ => rfl)).trans (mp_su_0 32)).symm
  | x :: L, h => by
    have e2 : mp_su (fun e => mp_ct e (x :: L)) 32 = mp_su (fun e => (if x.1 = e then 1 else 0) + mp_ct e L) 32 := rfl
    rw [e2, mp_su_add, mp_su_delta x.1 (fun _ => 1) 32, if_pos (h x List.mem_cons_self), ← mp_len_ct L (fun y hy => h y (List.mem_cons_of_mem _ hy))]
    show L.length + 1 = 1 + L.length
    omega
theorem mp_ct_pos {e : Nat} : ∀ {L : List (Nat × List Nat)}, 0 < mp_ct e L ↔ ∃ q, (e, q) ∈ L
  | [] => ⟨fun h => absurd h (Nat.lt_irrefl 0), fun ⟨_, h⟩ => nomatch h⟩
  | x :: L => by
    have e1 : mp_ct e (x :: L) = (if x.1 = e then 1 else 0) + mp_ct e L := rfl
    rw [e1]
    by_cases z : x.1 = e
    · rw [if_pos z]
      refine ⟨fun _ => ⟨x.2, ?_⟩, fun _ => by omega⟩
      obtain ⟨a, b⟩ := x
      dsimp only at z
      rw [z]
      exact List.mem_cons_self
    · rw [if_neg z, Nat.zero_add, mp_ct_pos]
      constructor
      · rintro ⟨q, h⟩
        exact ⟨q, List.mem_cons_of_mem _ h⟩
      · rintro ⟨q, h⟩
        rcases List.mem_cons.mp h with h | h
        · exact absurd (by rw [← h]) z
        · exact ⟨q, h⟩
def mp_cn (P : mp_PB) (v s e : Nat) : Nat := mp_ct e (mp_ws P v s)
/-- what method m adds at task t, state s, end e -/
def mp_am (P : mp_PB) (t s e m : Nat) : Nat := if mp_app P t m s = true then mp_su (fun b => mp_cn P (mp_fs P m) s b * mp_cn P (mp_sn P m) b e) 32 else 0
theorem mp_cn_t {P : mp_PB} (ok : mp_ok P) {t s : Nat} (e : Nat) (ht : t < 4) (hs : s < 32) : mp_cn P (8 + t) s e = mp_su (mp_am P t s e) 8 := by
  unfold mp_cn
  rw [mp_wst ok s ht, mp_ct_fl]
  apply mp_su_congr
  intro m hm
  unfold mp_am
  by_cases y : mp_app P t m s = true
  · rw [if_pos y, if_pos y]
    obtain ⟨k1, k2⟩ := ok.2 t m s ht hm y
    unfold mp_sv at k1 k2
    exact mp_ct_pr e _ _ (fun x hx => (mp_ws_good ok (by omega) (by omega) hs hx).1)
  · rw [if_neg y, if_neg y]
    rfl
theorem mp_ws_t {P : mp_PB} (ok : mp_ok P) {t s : Nat} (ht : t < 4) (hs : s < 32) {e : Nat} {r : List Nat} : (e, r) ∈ mp_ws P (8 + t) s ↔ ∃ m, m < 8 ∧ mp_app P t m s = true ∧ ∃ b p q, b < 32 ∧ (b, p) ∈ mp_ws P (mp_fs P m) s ∧ (e, q) ∈ mp_ws P (mp_sn P m) b ∧ r = p ++ q := by
  rw [mp_wst ok s ht, mp_fl_mem]
  constructor
  · rintro ⟨m, _, hm, h⟩
    by_cases y : mp_app P t m s = true
    · rw [if_pos y] at h
      unfold mp_mw at h
      rw [mp_pr_mem] at h
      obtain ⟨b, p, q, h1, h2, h3⟩ := h
      obtain ⟨k1, k2⟩ := ok.2 t m s ht (by omega) y
      unfold mp_sv at k1 k2
      exact ⟨m, by omega, y, b, p, q, (mp_ws_good ok (by omega) (by omega) hs h1).1, h1, h2, h3⟩
    · rw [if_neg y] at h
      exact nomatch h
  · rintro ⟨m, hm, y, b, p, q, _, h1, h2, h3⟩
    refine ⟨m, by omega, by omega, ?_⟩
    rw [if_pos y]
    unfold mp_mw
    rw [mp_pr_mem]
    exact ⟨b, p, q, h1, h2, h3⟩
/-- plans as numbers -/
def mp_dg : List Nat → Nat
  | [] => 0
  | a :: q => a * 8 ^ q.length + mp_dg q
def mp_en (q : List Nat) : Nat := q.length * 2 ^ 48 + mp_dg q
theorem mp_dg_lt : ∀ q : List Nat, (∀ a, a ∈ q → a < 8) → mp_dg q < 8 ^ q.length
  | [], _ => Nat.lt_succ_self 0
  | a :: q, h => by
    have h1 := mp_dg_lt q (fun b hb => h b (List.mem_cons_of_mem _ hb))
    have h2 := h a List.mem_cons_self
    show a * 8 ^ q.length + mp_dg q < 8 ^ (q.length + 1)
    have h3 : a * 8 ^ q.length ≤ 7 * 8 ^ q.length := Nat.mul_le_mul_right _ (by omega)
    rw [Nat.pow_succ]
    omega
theorem mp_dg_app : ∀ p q : List Nat, mp_dg (p ++ q) = mp_dg p * 8 ^ q.length + mp_dg q
  | [], q => by
    show mp_dg q = 0 * _ + _
    omega
  | a :: p, q => by
    show a * 8 ^ (p ++ q).length + mp_dg (p ++ q) = (a * 8 ^ p.length + mp_dg p) * 8 ^ q.length + mp_dg q
    rw [mp_dg_app p q, List.length_append, Nat.pow_add, Nat.add_mul, Nat.mul_assoc]
    omega
theorem mp_dg_16 {q : List Nat} (h : ∀ a, a ∈ q → a < 8) (hl : q.length ≤ 16) : mp_dg q < 2 ^ 48 :=
  Nat.lt_of_lt_of_le (mp_dg_lt q h) (Nat.le_trans (Nat.pow_le_pow_right (by decide) hl) (by decide))
theorem mp_lx_dg : ∀ p q : List Nat, p.length = q.length → (∀ a, a ∈ p → a < 8) → (∀ a, a ∈ q → a < 8) → (mp_lx p q = true ↔ mp_dg p < mp_dg q)
  | [], [], _, _, _ => ⟨fun h => (nomatch h), fun h => absurd h (Nat.lt_irrefl 0)⟩
  | [], _ :: _, h, _, _ => nomatch h
  | _ :: _, [], h, _, _ => nomatch h
  | a :: p, b :: q, h, h1, h2 => by
    have hl : p.length = q.length := Nat.succ.inj h
    have i1 : ∀ c, c ∈ p → c < 8 := fun c hc => h1 c (List.mem_cons_of_mem _ hc)
    have i2 : ∀ c, c ∈ q → c < 8 := fun c hc => h2 c (List.mem_cons_of_mem _ hc)
    have ih := mp_lx_dg p q hl i1 i2
    have d1 := mp_dg_lt p i1
    have d2 := mp_dg_lt q i2
    show (if a = b then mp_lx p q else decide (a < b)) = true ↔ a * 8 ^ p.length + mp_dg p < b * 8 ^ q.length + mp_dg q
    rw [hl] at d1 ⊢
    by_cases z : a = b
    · rw [if_pos z, ih, z]
      omega
    · rw [if_neg z, decide_eq_true_iff]
      constructor
      · intro hab
        have : (a + 1) * 8 ^ q.length ≤ b * 8 ^ q.length := Nat.mul_le_mul_right _ hab
        rw [Nat.add_mul] at this
        omega
      · intro hlt
        apply Decidable.byContradiction
        intro hn
        have : (b + 1) * 8 ^ q.length ≤ a * 8 ^ q.length := Nat.mul_le_mul_right _ (by omega)
        rw [Nat.add_mul] at this
        omega
def mp_pg (q : List Nat) : Prop := q.length ≤ 16 ∧ ∀ a, a ∈ q → a < 8
theorem mp_en_lt {p q : List Nat} (hp : mp_pg p) (hq : mp_pg q) : mp_en p < mp_en q ↔ (p.length < q.length ∨ (p.length = q.length ∧ mp_dg p < mp_dg q)) := by
  have h1 := mp_dg_16 hp.2 hp.1
  have h2 := mp_dg_16 hq.2 hq.1
  unfold mp_en
  omega
theorem mp_en_le {p q : List Nat} (hp : mp_pg p) (hq : mp_pg q) : mp_en p ≤ mp_en q ↔ (p.length < q.length ∨ (p.length = q.length ∧ mp_dg p ≤ mp_dg q)) := by
  have h1 := mp_dg_16 hp.2 hp.1
  have h2 := mp_dg_16 hq.2 hq.1
  unfold mp_en
  omega
theorem mp_en_b {p : List Nat} (hp : mp_pg p) : mp_en p < 2 ^ 53 := by
  have h1 := mp_dg_16 hp.2 hp.1
  have h2 := hp.1
  unfold mp_en
  omega
theorem mp_pg_app {p q : List Nat} (hp : mp_pg p) (hq : mp_pg q) (h : p.length + q.length ≤ 16) : mp_pg (p ++ q) := by
  refine ⟨by rw [List.length_append]; exact h, fun a ha => ?_⟩
  rcases List.mem_append.mp ha with ha | ha
  · exact hp.2 a ha
  · exact hq.2 a ha
theorem mp_en_app {p q p' q' : List Nat} (hp : mp_pg p) (hq : mp_pg q) (hp' : mp_pg p') (hq' : mp_pg q') (h : p.length + q.length ≤ 16) (h' : p'.length + q'.length ≤ 16) (e1 : mp_en p ≤ mp_en p') (e2 : mp_en q ≤ mp_en q') : mp_en (p ++ q) ≤ mp_en (p' ++ q') := by
  rw [mp_en_le (mp_pg_app hp hq h) (mp_pg_app hp' hq' h'), List.length_append, List.length_append, mp_dg_app, mp_dg_app]
  rw [mp_en_le hp hp'] at e1
  rw [mp_en_le hq hq'] at e2
  rcases e1 with e1 | ⟨e1, f1⟩
  · left; omega
  · rcases e2 with e2 | ⟨e2, f2⟩
    · left; omega
    · right
      refine ⟨by omega, ?_⟩
      rw [e2]
      exact Nat.add_le_add (Nat.mul_le_mul_right _ f1) f2
theorem mp_bt_en {q b : List Nat} (hq : mp_pg q) (hb : mp_pg b) : mp_bt q (some b) = true ↔ mp_en q < mp_en b := by
  rw [mp_en_lt hq hb]
  show (if q.length = b.length then mp_lx q b else decide (q.length < b.length)) = true ↔ _
  by_cases z : q.length = b.length
  · rw [if_pos z, mp_lx_dg q b z hq.2 hb.2]
    constructor
    · intro h; exact Or.inr ⟨z, h⟩
    · rintro (h | h)
      · omega
      · exact h.2
  · rw [if_neg z, decide_eq_true_iff]
    constructor
    · intro h; exact Or.inl h
    · rintro (h | h)
      · exact h
      · exact absurd h.1 z
/-- the reference's best is the least -/
def mp_bo (d : Nat) (M : List (Nat × List Nat)) (o : Option (List Nat)) : Prop := (o = none → ∀ q, ¬ (d, q) ∈ M) ∧ ∀ b, o = some b → (d, b) ∈ M ∧ ∀ q, (d, q) ∈ M → mp_en b ≤ mp_en q
theorem mp_be_ok (d : Nat) : ∀ (M M0 : List (Nat × List Nat)) (o : Option (List Nat)), (∀ x, x ∈ M0 ++ M → mp_pg x.2) → mp_bo d M0 o → mp_bo d (M0 ++ M) (mp_be d o M)
  | [], M0, o, _, h => by
    rw [List.append_nil]
    exact h
  | x :: M, M0, o, hg, h => by
    have e : M0 ++ x :: M = (M0 ++ [x]) ++ M := by simp
    rw [e] at hg ⊢
    refine mp_be_ok d M (M0 ++ [x]) _ hg ?_
    have hx : mp_pg x.2 := hg x (by simp)
    have hM0 : ∀ y, y ∈ M0 → mp_pg y.2 := fun y hy => hg y (by simp [hy])
    have mem : ∀ q, (d, q) ∈ M0 ++ [x] ↔ ((d, q) ∈ M0 ∨ (x.1 = d ∧ q = x.2)) := by
      intro q
      rw [List.mem_append, List.mem_singleton]
      obtain ⟨a, b⟩ := x
      constructor
      · rintro (h | h)
        · exact Or.inl h
        · injection h with h1 h2
          exact Or.inr ⟨h1.symm, h2⟩
      · rintro (h | ⟨h1, h2⟩)
        · exact Or.inl h
        · dsimp only at h1 h2
          rw [h1, h2]
          exact Or.inr rfl
    by_cases z : x.1 = d
    · cases o with
      | none =>
        rw [if_pos ⟨z, rfl⟩]
        refine ⟨fun h => (nomatch h), fun b hb => ?_⟩
        injection hb with hb
        subst hb
        refine ⟨(mem _).mpr (Or.inr ⟨z, rfl⟩), fun q hq => ?_⟩
        rcases (mem q).mp hq with hq | hq
        · exact absurd hq (h.1 rfl q)
        · rw [hq.2]; exact Nat.le_refl _
      | some b =>
        obtain ⟨hb1, hb2⟩ := h.2 b rfl
        have hbt := mp_bt_en hx (hM0 _ hb1)
        by_cases y : mp_bt x.2 (some b) = true
        · rw [if_pos ⟨z, y⟩]
          have hlt : mp_en x.2 < mp_en b := hbt.mp y
          refine ⟨fun h => (nomatch h), fun b' hb' => ?_⟩
          injection hb' with hb'
          subst hb'
          refine ⟨(mem _).mpr (Or.inr ⟨z, rfl⟩), fun q hq => ?_⟩
          rcases (mem q).mp hq with hq | hq
          · have := hb2 q hq
            omega
          · rw [hq.2]; exact Nat.le_refl _
        · rw [if_neg (fun h => y h.2)]
          have hnl : ¬ mp_en x.2 < mp_en b := fun hh => y (hbt.mpr hh)
          refine ⟨fun h => (nomatch h), fun b' hb' => ?_⟩
          injection hb' with hb'
          subst hb'
          refine ⟨(mem _).mpr (Or.inl hb1), fun q hq => ?_⟩
          rcases (mem q).mp hq with hq | hq
          · exact hb2 q hq
          · rw [hq.2]; omega
    · rw [if_neg (fun h => z h.1)]
      refine ⟨fun hn q hq => ?_, fun b hb => ?_⟩
      · rcases (mem q).mp hq with hq | hq
        · exact h.1 hn q hq
        · exact z hq.1
      · obtain ⟨hb1, hb2⟩ := h.2 b hb
        refine ⟨(mem _).mpr (Or.inl hb1), fun q hq => ?_⟩
        rcases (mem q).mp hq with hq | hq
        · exact hb2 q hq
        · exact absurd hq.1 z
theorem mp_be_0 (d : Nat) (M : List (Nat × List Nat)) (hg : ∀ x, x ∈ M → mp_pg x.2) : mp_bo d M (mp_be d none M) :=
  mp_be_ok d M [] none hg ⟨fun _ q h => (nomatch h), fun b h => (nomatch h)⟩
/-- the least end -/
def mp_lk (d : Nat) (M : List (Nat × List Nat)) (o : Option Nat) : Prop := (o = none → ∀ x, x ∈ M → x.1 < d) ∧ ∀ l, o = some l → d ≤ l ∧ (∃ x, x ∈ M ∧ x.1 = l) ∧ ∀ x, x ∈ M → d ≤ x.1 → l ≤ x.1
theorem mp_lo_ok (d : Nat) : ∀ (M M0 : List (Nat × List Nat)) (o : Option Nat), mp_lk d M0 o → mp_lk d (M0 ++ M) (mp_lo d o M)
  | [], M0, o, h => by
    rw [List.append_nil]
    exact h
  | x :: M, M0, o, h => by
    have e : M0 ++ x :: M = (M0 ++ [x]) ++ M := by simp
    rw [e]
    refine mp_lo_ok d M (M0 ++ [x]) _ ?_
    have mem : ∀ y, y ∈ M0 ++ [x] ↔ (y ∈ M0 ∨ y = x) := by
      intro y
      rw [List.mem_append, List.mem_singleton]
    by_cases z : x.1 < d
    · rw [if_pos z]
      refine ⟨fun hn y hy => ?_, fun l hl => ?_⟩
      · rcases (mem y).mp hy with hy | hy
        · exact h.1 hn y hy
        · rw [hy]; exact z
      · obtain ⟨h1, ⟨w, h2, h3⟩, h4⟩ := h.2 l hl
        refine ⟨h1, ⟨w, (mem w).mpr (Or.inl h2), h3⟩, fun y hy hd => ?_⟩
        rcases (mem y).mp hy with hy | hy
        · exact h4 y hy hd
        · rw [hy] at hd; omega
    · rw [if_neg z]
      cases o with
      | none =>
        refine ⟨fun h => (nomatch h), fun l hl => ?_⟩
        injection hl with hl
        refine ⟨by omega, ⟨x, (mem x).mpr (Or.inr rfl), hl⟩, fun y hy hd => ?_⟩
        rcases (mem y).mp hy with hy | hy
        · have := h.1 rfl y hy
          omega
        · rw [hy]; omega
      | some l0 =>
        obtain ⟨h1, ⟨w, h2, h3⟩, h4⟩ := h.2 l0 rfl
        by_cases y : l0 ≤ x.1
        · show mp_lk d _ (if l0 ≤ x.1 then some l0 else some x.1)
          rw [if_pos y]
          refine ⟨fun h => (nomatch h), fun l hl => ?_⟩
          injection hl with hl
          subst hl
          refine ⟨h1, ⟨w, (mem w).mpr (Or.inl h2), h3⟩, fun y' hy hd => ?_⟩
          rcases (mem y').mp hy with hy | hy
          · exact h4 y' hy hd
          · rw [hy]; exact y
        · show mp_lk d _ (if l0 ≤ x.1 then some l0 else some x.1)
          rw [if_neg y]
          refine ⟨fun h => (nomatch h), fun l hl => ?_⟩
          injection hl with hl
          subst hl
          refine ⟨by omega, ⟨x, (mem x).mpr (Or.inr rfl), rfl⟩, fun y' hy hd => ?_⟩
          rcases (mem y').mp hy with hy | hy
          · have := h4 y' hy hd
            omega
          · rw [hy]; exact Nat.le_refl _
theorem mp_lo_0 (d : Nat) (M : List (Nat × List Nat)) : mp_lk d M (mp_lo d none M) :=
  mp_lo_ok d M [] none ⟨fun _ x h => (nomatch h), fun l h => (nomatch h)⟩
