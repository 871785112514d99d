theorem mp_len_pr {G : Nat → List (Nat × List Nat)} {C : Nat} : ∀ {L : List (Nat × List Nat)}, (∀ x, x ∈ L → (G x.1).length ≤ C) → (mp_pr L G).length ≤ L.length * C
  | [], _ => Nat.zero_le _
  | x :: L, h => by
    have e1 : mp_pr (x :: L) G = (G x.1).map (fun y => (y.1, x.2 ++ y.2)) ++ mp_pr L G := rfl
    rw [e1, List.length_append, List.length_map]
    have h1 := h x List.mem_cons_self
    have h2 := mp_len_pr (L := L) (fun y hy => h y (List.mem_cons_of_mem _ hy))
    show _ ≤ (L.length + 1) * C
    rw [Nat.add_mul]
    omega
theorem mp_su_mul (f : Nat → Nat) (c : Nat) : ∀ n, mp_su (fun i => f i * c) n = mp_su f n * c
  | 0 => (Nat.zero_mul c).symm
  | n + 1 => by
    show mp_su (fun i => f i * c) n + f n * c = (mp_su f n + f n) * c
    rw [mp_su_mul f c n, Nat.add_mul]
def mp_nt (tk : Nat → Nat) (t : Nat) : Nat := mp_su (fun m => if tk m = t then 1 else 0) 8
theorem mp_len_t {P : mp_PB} (ok : mp_ok P) {tk : Nat → Nat} (hT : ∀ t m s, t < 4 → m < 8 → mp_app P t m s = true → tk m = t) {t C : Nat} (ht : t < 4)
    (hC : ∀ v s, mp_sv t v → s < 32 → (mp_ws P v s).length ≤ C) {s : Nat} (hs : s < 32) : (mp_ws P (8 + t) s).length ≤ mp_nt tk t * (C * C) := by
  rw [mp_wst ok s ht, mp_len_fl]
  unfold mp_nt
  rw [← mp_su_mul]
  apply mp_su_le
  intro m hm
  by_cases y : mp_app P t m s = true
  · rw [if_pos y, if_pos (hT t m s ht hm y), Nat.one_mul]
    obtain ⟨k1, k2⟩ := ok.2 t m s ht hm y
    have k1' := k1
    unfold mp_sv at k1'
    refine Nat.le_trans (mp_len_pr (C := C) ?_) (Nat.mul_le_mul_right _ (hC _ s k1 hs))
    intro x hx
    exact hC _ _ k2 (mp_ws_good ok (by omega) (by omega) hs hx).1
  · rw [if_neg y]
    exact Nat.zero_le _
def mp_mx (a b : Nat) : Nat := if a ≤ b then b else a
theorem mp_mx_l (a b : Nat) : a ≤ mp_mx a b := by unfold mp_mx; split <;> omega
theorem mp_mx_r (a b : Nat) : b ≤ mp_mx a b := by unfold mp_mx; split <;> omega
def mp_nx (n b : Nat) : Nat := mp_mx b (n * (b * b))
theorem mp_tab : ∀ a, a < 9 → ∀ b, b < 9 - a → ∀ c, c < 9 - a - b → ∀ d, d < 9 - a - b - c → mp_nx d (mp_nx c (mp_nx b (mp_nx a 1))) ≤ 1048576 := by decide +kernel
theorem mp_nt_sum (tk : Nat → Nat) : mp_nt tk 0 + mp_nt tk 1 + mp_nt tk 2 + mp_nt tk 3 ≤ 8 := by
  unfold mp_nt
  rw [← mp_su_add, ← mp_su_add, ← mp_su_add]
  refine Nat.le_trans (mp_su_le (g := fun _ => 1) (fun m _ => ?_)) (by decide)
  by_cases h0 : tk m = 0
  · simp [h0]
  · by_cases h1 : tk m = 1
    · simp [h1]
    · by_cases h2 : tk m = 2
      · simp [h2]
      · by_cases h3 : tk m = 3
        · simp [h3]
        · simp [h0, h1, h2, h3]
theorem mp_len_a {P : mp_PB} {v : Nat} (s : Nat) (hv : v < 8) : (mp_ws P v s).length ≤ 1 := by
  by_cases z : v = 0
  · subst z
    exact Nat.le_refl _
  · rw [mp_wsa P s z hv]
    split
    · exact Nat.le_refl _
    · exact Nat.zero_le _
theorem mp_len_b {P : mp_PB} (ok : mp_ok P) {tk : Nat → Nat} (hT : ∀ t m s, t < 4 → m < 8 → mp_app P t m s = true → tk m = t) {v s : Nat} (hv : v ≤ 11) (hs : s < 32) : (mp_ws P v s).length ≤ 1048576 := by
  have step : ∀ t C, t < 4 → 1 ≤ C → (∀ v s, 8 + t < v → v ≤ 11 → s < 32 → (mp_ws P v s).length ≤ C) → ∀ v s, 8 + t ≤ v → v ≤ 11 → s < 32 → (mp_ws P v s).length ≤ mp_nx (mp_nt tk t) C := by
    intro t C ht h1 hC v s hv1 hv2 hs
    by_cases e : v = 8 + t
    · subst e
      refine Nat.le_trans (mp_len_t ok hT ht (C := C) ?_ hs) (mp_mx_r _ _)
      intro v s hv hs
      rcases hv with hv | hv
      · exact Nat.le_trans (mp_len_a s (by omega)) h1
      · exact hC v s hv.1 hv.2 hs
    · exact Nat.le_trans (hC v s (by omega) hv2 hs) (mp_mx_l _ _)
  have ge1 : ∀ n b, 1 ≤ b → 1 ≤ mp_nx n b := fun n b h => Nat.le_trans h (mp_mx_l _ _)
  have h3 := step 3 1 (by omega) (Nat.le_refl 1) (fun v s h1 h2 => by omega)
  have g3 := ge1 (mp_nt tk 3) 1 (Nat.le_refl 1)
  have h2 := step 2 _ (by omega) g3 (fun v s a b => h3 v s (by omega) b)
  have g2 := ge1 (mp_nt tk 2) _ g3
  have h1 := step 1 _ (by omega) g2 (fun v s a b => h2 v s (by omega) b)
  have g1 := ge1 (mp_nt tk 1) _ g2
  have h0 := step 0 _ (by omega) g1 (fun v s a b => h1 v s (by omega) b)
  by_cases w : v < 8
  · exact Nat.le_trans (mp_len_a s w) (by decide)
  · refine Nat.le_trans (h0 v s (by omega) hv hs) ?_
    have := mp_nt_sum tk
    exact mp_tab _ (by omega) _ (by omega) _ (by omega) _ (by omega)
theorem mp_ct_len (e : Nat) : ∀ L : List (Nat × List Nat), mp_ct e L ≤ L.length
  | [] => Nat.le_refl _
  | x :: L => by
    have := mp_ct_len e L
    show (if x.1 = e then 1 else 0) + mp_ct e L ≤ L.length + 1
    split <;> omega
/-- without a method -/
def mp_rm (P : mp_PB) (m : Nat) : mp_PB := (P.1, P.2.1, fun t i s => decide (i ≠ m) && P.2.2.1 t i s, P.2.2.2.1, P.2.2.2.2)
theorem mp_rm_app (P : mp_PB) (m t i s : Nat) : mp_app (mp_rm P m) t i s = (decide (i ≠ m) && mp_app P t i s) := rfl
theorem mp_rm_ok {P : mp_PB} (ok : mp_ok P) (m : Nat) : mp_ok (mp_rm P m) := by
  refine ⟨ok.1, fun t i s ht hi ha => ?_⟩
  rw [mp_rm_app, Bool.and_eq_true] at ha
  exact ok.2 t i s ht hi ha.2
theorem mp_rm_a (P : mp_PB) (m : Nat) {v : Nat} (s : Nat) (hv : v < 8) : mp_ws (mp_rm P m) v s = mp_ws P v s := by
  by_cases z : v = 0
  · subst z
    rw [mp_ws0, mp_ws0]
  · have e1 := mp_wsa (mp_rm P m) s z hv
    have e2 := mp_wsa P s z hv
    exact e1.trans e2.symm
theorem mp_pr_congr {G G' : Nat → List (Nat × List Nat)} : ∀ {L : List (Nat × List Nat)}, (∀ x, x ∈ L → G x.1 = G' x.1) → mp_pr L G = mp_pr L G'
  | [], _ => rfl
  | x :: L, h => by
    have e1 : ∀ G, mp_pr (x :: L) G = (G x.1).map (fun y => (y.1, x.2 ++ y.2)) ++ mp_pr L G := fun _ => rfl
    rw [e1, e1, h x List.mem_cons_self, mp_pr_congr (fun y hy => h y (List.mem_cons_of_mem _ hy))]
theorem mp_rm_mw {P : mp_PB} (ok : mp_ok P) {m t i s : Nat} (ht : t < 4) (hi : i < 8) (hs : s < 32) (ha : mp_app P t i s = true) (hE : ∀ u, u < 4 → t < u → ∀ s, s < 32 → mp_ws (mp_rm P m) (8 + u) s = mp_ws P (8 + u) s) : mp_mw (mp_rm P m) i s = mp_mw P i s := by
  obtain ⟨k1, k2⟩ := ok.2 t i s ht hi ha
  have hE' : ∀ v, mp_sv t v → ∀ s, s < 32 → mp_ws (mp_rm P m) v s = mp_ws P v s := by
    intro v hv s hs
    rcases hv with hv | hv
    · exact mp_rm_a P m s (by omega)
    · have := hE (v - 8) (by omega) (by omega) s hs
      have e : 8 + (v - 8) = v := by omega
      rw [e] at this
      exact this
  show mp_pr (mp_ws (mp_rm P m) (mp_fs P i) s) (mp_ws (mp_rm P m) (mp_sn P i)) = mp_pr (mp_ws P (mp_fs P i) s) (mp_ws P (mp_sn P i))
  rw [hE' _ k1 s hs]
  apply mp_pr_congr
  intro x hx
  have k1' := k1
  unfold mp_sv at k1'
  exact hE' _ k2 _ (mp_ws_good ok (by omega) (by omega) hs hx).1
theorem mp_rm_ws {P : mp_PB} (ok : mp_ok P) {m lo : Nat} (H : ∀ t s, t < 4 → lo ≤ t → s < 32 → mp_app P t m s = true → mp_mw P m s = []) : ∀ k t, 4 - t ≤ k → t < 4 → lo ≤ t → ∀ s, s < 32 → mp_ws (mp_rm P m) (8 + t) s = mp_ws P (8 + t) s := by
  intro k
  induction k with
  | zero => intro t h1 h2; omega
  | succ k ih =>
    intro t h1 ht hlo s hs
    rw [mp_wst (mp_rm_ok ok m) s ht, mp_wst ok s ht]
    apply mp_fl_congr
    intro i _ hi
    by_cases y : mp_app P t i s = true
    · rw [if_pos y]
      by_cases z : i = m
      · subst z
        rw [mp_rm_app, decide_eq_false (fun h => h rfl)]
        exact (H t s ht hlo hs y).symm
      · rw [mp_rm_app, decide_eq_true z, y]
        exact mp_rm_mw ok ht (by omega) hs y (fun u hu htu s hs => ih u (by omega) hu (by omega) s hs)
    · rw [if_neg y, mp_rm_app, if_neg]
      rw [Bool.and_eq_true]
      exact fun h => y h.2
theorem mp_su_lt {f g : Nat → Nat} {i : Nat} : ∀ {n : Nat}, (∀ i, i < n → f i ≤ g i) → i < n → f i < g i → mp_su f n < mp_su g n
  | 0, _, h, _ => by omega
  | n + 1, h, hi, hlt => by
    show mp_su f n + f n < mp_su g n + g n
    by_cases e : i = n
    · subst e
      have := mp_su_le (f := f) (g := g) (n := i) (fun j hj => h j (by omega))
      omega
    · have := mp_su_lt (f := f) (g := g) (n := n) (fun j hj => h j (by omega)) (by omega) hlt
      have := h n (by omega)
      omega
theorem mp_useless {P : mp_PB} (ok : mp_ok P) {m τ : Nat} (hm : m < 8) (hτ : τ < 4) (hu : ∀ t s, t < 4 → mp_app P t m s = true → t = τ) :
    (∀ i, 0 ≤ i → i < 128 → mp_sl P (mp_rm P m) i) ↔ ∀ s, s < 32 → mp_app P τ m s = true → mp_mw P m s = [] := by
  constructor
  · intro h s hs ha
    apply Classical.byContradiction
    intro hne
    have hsl := h (τ * 32 + s) (Nat.zero_le _) (by omega)
    unfold mp_sl at hsl
    have e1 : (τ * 32 + s) / 32 = τ := by omega
    have e2 : (τ * 32 + s) % 32 = s := by omega
    rw [e1, e2] at hsl
    have hE : ∀ u, u < 4 → τ < u → ∀ s, s < 32 → mp_ws (mp_rm P m) (8 + u) s = mp_ws P (8 + u) s := by
      intro u hu1 hu2 s hs
      refine mp_rm_ws ok (lo := τ + 1) (fun t s ht hlo hs ha => ?_) 4 u (by omega) hu1 (by omega) s hs
      have := hu t s ht ha
      omega
    have hlt : (mp_ws (mp_rm P m) (8 + τ) s).length < (mp_ws P (8 + τ) s).length := by
      rw [mp_wst (mp_rm_ok ok m) s hτ, mp_wst ok s hτ, mp_len_fl, mp_len_fl]
      refine mp_su_lt (i := m) ?_ hm ?_
      · intro i hi
        by_cases y : mp_app P τ i s = true
        · by_cases z : i = m
          · rw [mp_rm_app, decide_eq_false (fun h => h z)]
            exact Nat.zero_le _
          · rw [mp_rm_app, decide_eq_true z, y, if_pos rfl, mp_rm_mw ok hτ hi hs y hE]
            exact Nat.le_refl _
        · rw [mp_rm_app, if_neg]
          · exact Nat.zero_le _
          · rw [Bool.and_eq_true]
            exact fun h => y h.2
      · rw [mp_rm_app, decide_eq_false (fun h => h rfl), ha, if_pos rfl]
        exact List.length_pos_iff.mpr hne
    omega
  · intro h i _ hi
    unfold mp_sl
    rw [mp_rm_ws ok (lo := 0) (fun t s ht _ hs ha => ?_) 4 (i / 32) (by omega) (by omega) (by omega) (i % 32) (by omega)]
    have := hu t s ht ha
    subst this
    exact h s hs ha
