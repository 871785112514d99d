/-- a problem: hol a s, out a s, app t m s, first m, second m -/
abbrev mp_PB : Type := (Nat → Nat → Bool) × (Nat → Nat → Nat) × (Nat → Nat → Nat → Bool) × (Nat → Nat) × (Nat → Nat)
def mp_hol (P : mp_PB) (a s : Nat) : Bool := P.1 a s
def mp_out (P : mp_PB) (a s : Nat) : Nat := P.2.1 a s
def mp_app (P : mp_PB) (t m s : Nat) : Bool := P.2.2.1 t m s
def mp_fs (P : mp_PB) (m : Nat) : Nat := P.2.2.2.1 m
def mp_sn (P : mp_PB) (m : Nat) : Nat := P.2.2.2.2 m
def mp_sv (t v : Nat) : Prop := v ≤ 6 ∨ (8 + t < v ∧ v ≤ 11)
def mp_ok (P : mp_PB) : Prop := (∀ a s, a < 6 → s < 32 → mp_out P a s < 32) ∧ (∀ t m s, t < 4 → m < 8 → mp_app P t m s = true → mp_sv t (mp_fs P m) ∧ mp_sv t (mp_sn P m))
/-- actions and task nodes at most -/
def mp_an (v : Nat) : Nat := if v < 8 then 1 else 2 ^ (12 - v)
def mp_tn (v : Nat) : Nat := if v < 8 then 0 else 2 ^ (12 - v) - 1
theorem mp_an_c : ∀ t, t < 4 → ∀ v, v < 12 → (v ≤ 6 ∨ (8 + t < v ∧ v ≤ 11)) → 2 * mp_an v ≤ mp_an (8 + t) ∧ 2 * mp_tn v + 1 ≤ mp_tn (8 + t) := by decide
theorem mp_an_s {t v : Nat} (ht : t < 4) (h : mp_sv t v) : 2 * mp_an v ≤ mp_an (8 + t) ∧ 2 * mp_tn v + 1 ≤ mp_tn (8 + t) :=
  mp_an_c t ht v (by unfold mp_sv at h; omega) h
def mp_sa : List Nat → Nat
  | [] => 0
  | v :: l => mp_an v + mp_sa l
def mp_sx : List Nat → Nat
  | [] => 0
  | v :: l => mp_tn v + mp_sx l
def mp_av (ag : List Nat) : Prop := ∀ v, v ∈ ag → (1 ≤ v ∧ v ≤ 6) ∨ (8 ≤ v ∧ v ≤ 11)
def mp_pu (v : Nat) (ag : List Nat) : List Nat := if v = 0 then ag else v :: ag
def mp_ch (P : mp_PB) (m : Nat) (ag : List Nat) : List Nat := mp_pu (mp_fs P m) (mp_pu (mp_sn P m) ag)
theorem mp_pu_sa (v : Nat) (a : List Nat) : mp_sa (mp_pu v a) ≤ mp_an v + mp_sa a := by
  unfold mp_pu
  split
  · omega
  · exact Nat.le_refl _
theorem mp_pu_sx (v : Nat) (a : List Nat) : mp_sx (mp_pu v a) ≤ mp_tn v + mp_sx a := by
  unfold mp_pu
  split
  · omega
  · exact Nat.le_refl _
theorem mp_pu_av {t v : Nat} {a : List Nat} (h : mp_sv t v) (ha : mp_av a) : mp_av (mp_pu v a) := by
  unfold mp_pu
  split
  · exact ha
  · intro w hw
    rcases List.mem_cons.mp hw with e | e
    · subst e
      unfold mp_sv at h
      omega
    · exact ha w e
theorem mp_an_pos (v : Nat) : 1 ≤ mp_an v := by
  unfold mp_an
  split
  · exact Nat.le_refl _
  · exact Nat.one_le_two_pow
theorem mp_len_sa : ∀ a : List Nat, a.length ≤ mp_sa a
  | [] => Nat.le_refl _
  | v :: a => by
    have h1 := mp_len_sa a
    have h2 := mp_an_pos v
    show a.length + 1 ≤ mp_an v + mp_sa a
    omega
theorem mp_ch_ok {P : mp_PB} {t m : Nat} {a : List Nat} (ht : t < 4) (h1 : mp_sv t (mp_fs P m)) (h2 : mp_sv t (mp_sn P m)) (ha : mp_av a) :
    mp_av (mp_ch P m a) ∧ mp_sa (mp_ch P m a) ≤ mp_an (8 + t) + mp_sa a ∧ mp_sx (mp_ch P m a) + 1 ≤ mp_tn (8 + t) + mp_sx a := by
  have e1 := mp_an_s ht h1
  have e2 := mp_an_s ht h2
  have f1 := mp_pu_sa (mp_fs P m) (mp_pu (mp_sn P m) a)
  have f2 := mp_pu_sa (mp_sn P m) a
  have f3 := mp_pu_sx (mp_fs P m) (mp_pu (mp_sn P m) a)
  have f4 := mp_pu_sx (mp_sn P m) a
  refine ⟨mp_pu_av h1 (mp_pu_av h2 ha), ?_, ?_⟩
  · unfold mp_ch; omega
  · unfold mp_ch; omega
/-- the leaves that a node with children q m, f m still has from child c on (k children left), its end last -/
def mp_gl {α : Type} (q : Nat → Bool) (f : Nat → List (Option α)) : Nat → Nat → List (Option α)
  | 0, _ => [none]
  | k + 1, c => if q c then f c ++ mp_gl q f k (c + 1) else mp_gl q f k (c + 1)
def mp_R (P : mp_PB) : Nat → List Nat → Nat → List Nat → List Nat → List (Option (Nat × List Nat))
  | 0, _, _, _, _ => []
  | _ + 1, [], s, p, _ => [some (s, p)]
  | n + 1, v :: ag, s, p, cs =>
    if v < 8 then (if mp_hol P (v - 1) s then mp_R P n ag (mp_out P (v - 1) s) (p ++ [v - 1]) cs else [none])
    else match cs with
      | [] => mp_gl (fun m => mp_app P (v - 8) m s) (fun m => mp_R P n (mp_ch P m ag) s p []) 8 0
      | [c] => mp_gl (fun m => mp_app P (v - 8) m s) (fun m => mp_R P n (mp_ch P m ag) s p []) (8 - c) c
      | c :: c' :: cs' => mp_R P n (mp_ch P c ag) s p (c' :: cs') ++ mp_gl (fun m => mp_app P (v - 8) m s) (fun m => mp_R P n (mp_ch P m ag) s p []) (8 - (c + 1)) (c + 1)
def mp_V (P : mp_PB) : Nat → List Nat → Nat → List Nat → Prop
  | 0, _, _, cs => cs = []
  | _ + 1, [], _, cs => cs = []
  | n + 1, v :: ag, s, cs =>
    if v < 8 then (cs = [] ∨ (mp_hol P (v - 1) s = true ∧ mp_V P n ag (mp_out P (v - 1) s) cs))
    else match cs with
      | [] => True
      | [c] => c ≤ 8
      | c :: c' :: cs' => c < 8 ∧ mp_app P (v - 8) c s = true ∧ mp_V P n (mp_ch P c ag) s (c' :: cs')
def mp_inc : List Nat → List Nat
  | [] => []
  | [c] => [c + 1]
  | c :: c' :: l => c :: mp_inc (c' :: l)
theorem mp_inc_len : ∀ l : List Nat, (mp_inc l).length = l.length
  | [] => rfl
  | [_] => rfl
  | c :: c' :: l => by
    show (mp_inc (c' :: l)).length + 1 = _
    rw [mp_inc_len (c' :: l)]
    rfl
theorem mp_inc_ne {l : List Nat} (h : l ≠ []) : mp_inc l ≠ [] := by
  intro e
  have h1 := mp_inc_len l
  rw [e] at h1
  exact h (List.length_eq_zero_iff.mp h1.symm)
theorem mp_inc_cons {m : Nat} {l : List Nat} (h : l ≠ []) : mp_inc (m :: l) = m :: mp_inc l := by
  cases l with
  | nil => exact absurd rfl h
  | cons c l => rfl
/-- what is left at a task node that has chosen m and then es -/
theorem mp_R_pick {P : mp_PB} {n v s m : Nat} {ag p es : List Nat} (hv : ¬ v < 8) :
    mp_R P (n + 1) (v :: ag) s p (mp_inc (m :: es)) = (if es = [] then [] else mp_R P n (mp_ch P m ag) s p (mp_inc es)) ++ mp_gl (fun m => mp_app P (v - 8) m s) (fun m => mp_R P n (mp_ch P m ag) s p []) (8 - (m + 1)) (m + 1) := by
  by_cases h : es = []
  · subst h
    show (if v < 8 then _ else _) = _
    rw [if_neg hv, if_pos rfl]
    rfl
  · rw [if_neg h, mp_inc_cons h]
    cases e : mp_inc es with
    | nil => exact absurd e (mp_inc_ne h)
    | cons c l =>
      show (if v < 8 then _ else _) = _
      rw [if_neg hv]
theorem mp_V_pick {P : mp_PB} {n v s m : Nat} {ag es : List Nat} (hv : ¬ v < 8) (hm : m < 8) (ha : mp_app P (v - 8) m s = true) (h : es ≠ [] → mp_V P n (mp_ch P m ag) s (mp_inc es)) :
    mp_V P (n + 1) (v :: ag) s (mp_inc (m :: es)) := by
  by_cases z : es = []
  · subst z
    show (if v < 8 then _ else _)
    rw [if_neg hv]
    show m + 1 ≤ 8
    omega
  · have h' := h z
    rw [mp_inc_cons z]
    cases e : mp_inc es with
    | nil => exact absurd e (mp_inc_ne z)
    | cons c l =>
      rw [e] at h'
      show (if v < 8 then _ else _)
      rw [if_neg hv]
      exact ⟨hm, ha, h'⟩
/-- choosing: the first child from c on -/
theorem mp_gl_none {α : Type} {q : Nat → Bool} {f : Nat → List (Option α)} : ∀ k c, (∀ m, c ≤ m → m < c + k → q m = false) → mp_gl q f k c = [none]
  | 0, _, _ => rfl
  | k + 1, c, h => by
    show (if q c then _ else _) = _
    rw [h c (Nat.le_refl c) (by omega)]
    exact mp_gl_none k (c + 1) (fun m h1 h2 => h m (by omega) (by omega))
theorem mp_gl_some {α : Type} {q : Nat → Bool} {f : Nat → List (Option α)} {m : Nat} (hm : q m = true) : ∀ k c, c ≤ m → m < c + k → (∀ i, c ≤ i → i < m → q i = false) → mp_gl q f k c = f m ++ mp_gl q f (c + k - (m + 1)) (m + 1)
  | 0, c, h1, h2, _ => by omega
  | k + 1, c, h1, h2, h => by
    show (if q c then _ else _) = _
    by_cases e : c = m
    · subst e
      rw [if_pos hm]
      have : c + (k + 1) - (c + 1) = k := by omega
      rw [this]
    · rw [h c (Nat.le_refl c) (by omega)]
      have := mp_gl_some (f := f) hm k (c + 1) (by omega) (by omega) (fun i h1 h2 => h i (by omega) h2)
      have e2 : c + 1 + k = c + (k + 1) := by omega
      rw [e2] at this
      exact this
/-- the ways of step v in state s -/
def mp_fl {α : Type} (g : Nat → List α) : Nat → Nat → List α
  | 0, _ => []
  | k + 1, c => g c ++ mp_fl g k (c + 1)
def mp_pr (L : List (Nat × List Nat)) (G : Nat → List (Nat × List Nat)) : List (Nat × List Nat) := L.flatMap (fun x => (G x.1).map (fun y => (y.1, x.2 ++ y.2)))
def mp_wd (P : mp_PB) : Nat → Nat → Nat → List (Nat × List Nat)
  | 0, _, _ => []
  | d + 1, v, s => if v = 0 then [(s, [])] else if v < 8 then (if mp_hol P (v - 1) s then [(mp_out P (v - 1) s, [v - 1])] else [])
      else mp_fl (fun m => if mp_app P (v - 8) m s then mp_pr (mp_wd P d (mp_fs P m) s) (mp_wd P d (mp_sn P m)) else []) 8 0
def mp_ws (P : mp_PB) (v s : Nat) : List (Nat × List Nat) := mp_wd P 5 v s
theorem mp_fl_congr {α : Type} {g g' : Nat → List α} : ∀ k c, (∀ m, c ≤ m → m < c + k → g m = g' m) → mp_fl g k c = mp_fl g' k c
  | 0, _, _ => rfl
  | k + 1, c, h => by
    show g c ++ _ = g' c ++ _
    rw [h c (Nat.le_refl c) (by omega), mp_fl_congr k (c + 1) (fun m h1 h2 => h m (by omega) (by omega))]
def mp_rk (v : Nat) : Nat := 12 - v
theorem mp_wd_ind {P : mp_PB} (ok : mp_ok P) : ∀ d d' v s, v ≤ 11 → (v < 8 ∨ 12 - v < d) → (v < 8 ∨ 12 - v < d') → 0 < d → 0 < d' → mp_wd P d v s = mp_wd P d' v s
  | 0, _, _, _, _, _, _, h, _ => by omega
  | _, 0, _, _, _, _, _, _, h => by omega
  | d + 1, d' + 1, v, s, hv, h1, h2, _, _ => by
    show (if v = 0 then _ else if v < 8 then _ else _) = (if v = 0 then _ else if v < 8 then _ else _)
    by_cases z : v = 0
    · rw [if_pos z, if_pos z]
    · rw [if_neg z, if_neg z]
      by_cases w : v < 8
      · rw [if_pos w, if_pos w]
      · rw [if_neg w, if_neg w]
        apply mp_fl_congr
        intro m _ hm
        by_cases a : mp_app P (v - 8) m s = true
        · rw [if_pos a, if_pos a]
          obtain ⟨k1, k2⟩ := ok.2 (v - 8) m s (by omega) (by omega) a
          unfold mp_sv at k1 k2
          have e1 : mp_wd P d (mp_fs P m) s = mp_wd P d' (mp_fs P m) s := mp_wd_ind ok d d' _ s (by omega) (by omega) (by omega) (by omega) (by omega)
          have e2 : mp_wd P d (mp_sn P m) = mp_wd P d' (mp_sn P m) := funext fun b => mp_wd_ind ok d d' _ b (by omega) (by omega) (by omega) (by omega) (by omega)
          rw [e1, e2]
        · rw [if_neg a, if_neg a]
theorem mp_ws0 (P : mp_PB) (s : Nat) : mp_ws P 0 s = [(s, [])] := rfl
theorem mp_wsa (P : mp_PB) {v : Nat} (s : Nat) (h0 : v ≠ 0) (h : v < 8) : mp_ws P v s = if mp_hol P (v - 1) s then [(mp_out P (v - 1) s, [v - 1])] else [] := by
  show (if v = 0 then _ else if v < 8 then _ else _) = _
  rw [if_neg h0, if_pos h]
/-- what method m gives in state s -/
def mp_mw (P : mp_PB) (m s : Nat) : List (Nat × List Nat) := mp_pr (mp_ws P (mp_fs P m) s) (mp_ws P (mp_sn P m))
theorem mp_wst {P : mp_PB} (ok : mp_ok P) {t : Nat} (s : Nat) (ht : t < 4) : mp_ws P (8 + t) s = mp_fl (fun m => if mp_app P t m s then mp_mw P m s else []) 8 0 := by
  show (if 8 + t = 0 then _ else if 8 + t < 8 then _ else _) = _
  rw [if_neg (by omega), if_neg (by omega)]
  apply mp_fl_congr
  intro m _ hm
  have et : 8 + t - 8 = t := by omega
  rw [et]
  by_cases a : mp_app P t m s = true
  · rw [if_pos a, if_pos a]
    obtain ⟨k1, k2⟩ := ok.2 t m s ht (by omega) a
    unfold mp_sv at k1 k2
    have e1 : mp_wd P 4 (mp_fs P m) s = mp_ws P (mp_fs P m) s := mp_wd_ind ok 4 5 _ s (by omega) (by omega) (by omega) (by omega) (by omega)
    have e2 : mp_wd P 4 (mp_sn P m) = mp_ws P (mp_sn P m) := funext fun b => mp_wd_ind ok 4 5 _ b (by omega) (by omega) (by omega) (by omega) (by omega)
    rw [e1, e2]
    rfl
  · rw [if_neg a, if_neg a]
/-- the leaves that succeed are the ways -/
def mp_sq (P : mp_PB) : List Nat → Nat → List Nat → List (Nat × List Nat)
  | [], s, p => [(s, p)]
  | v :: ag, s, p => (mp_ws P v s).flatMap (fun x => mp_sq P ag x.1 (p ++ x.2))
theorem mp_sq_pu (P : mp_PB) (v : Nat) (ag : List Nat) (s : Nat) (p : List Nat) : mp_sq P (mp_pu v ag) s p = (mp_ws P v s).flatMap (fun x => mp_sq P ag x.1 (p ++ x.2)) := by
  unfold mp_pu
  split
  · next h =>
    subst h
    rw [mp_ws0]
    simp
  · rfl
theorem mp_sq_ch (P : mp_PB) (m : Nat) (ag : List Nat) (s : Nat) (p : List Nat) : mp_sq P (mp_ch P m ag) s p = (mp_mw P m s).flatMap (fun x => mp_sq P ag x.1 (p ++ x.2)) := by
  unfold mp_ch mp_mw mp_pr
  rw [mp_sq_pu, List.flatMap_assoc]
  congr 1
  funext x
  rw [mp_sq_pu, List.flatMap_map]
  congr 1
  funext y
  simp
theorem mp_gl_fl {α : Type} (q : Nat → Bool) (f : Nat → List (Option α)) : ∀ k c, (mp_gl q f k c).filterMap id = mp_fl (fun m => if q m then (f m).filterMap id else []) k c
  | 0, _ => rfl
  | k + 1, c => by
    show (if q c then _ else _ : List (Option α)).filterMap id = (if q c then _ else _) ++ mp_fl _ k (c + 1)
    rw [← mp_gl_fl q f k (c + 1)]
    cases q c
    · simp
    · simp
theorem mp_fl_flatMap {α β : Type} (g : Nat → List α) (G : α → List β) : ∀ k c, (mp_fl g k c).flatMap G = mp_fl (fun m => (g m).flatMap G) k c
  | 0, _ => rfl
  | k + 1, c => by
    show (g c ++ mp_fl g k (c + 1)).flatMap G = (g c).flatMap G ++ _
    rw [List.flatMap_append, mp_fl_flatMap g G k (c + 1)]
theorem mp_R_sq {P : mp_PB} (ok : mp_ok P) : ∀ n ag s p, mp_sa ag + mp_sx ag < n → mp_av ag → (mp_R P n ag s p []).filterMap id = mp_sq P ag s p
  | 0, _, _, _, h, _ => by omega
  | n + 1, [], s, p, _, _ => rfl
  | n + 1, v :: ag, s, p, h, hav => by
    have hv := hav v (List.mem_cons_self)
    have ha : mp_av ag := fun w hw => hav w (List.mem_cons_of_mem _ hw)
    have hp := mp_an_pos v
    have hs : mp_sa (v :: ag) = mp_an v + mp_sa ag := rfl
    have hx : mp_sx (v :: ag) = mp_tn v + mp_sx ag := rfl
    show (if v < 8 then _ else _ : List (Option (Nat × List Nat))).filterMap id = (mp_ws P v s).flatMap _
    by_cases w : v < 8
    · rw [if_pos w, mp_wsa P s (by omega) w]
      by_cases z : mp_hol P (v - 1) s = true
      · rw [if_pos z, if_pos z, mp_R_sq ok n ag _ _ (by omega) ha]
        simp
      · rw [if_neg z, if_neg z]
        rfl
    · obtain ⟨t, ht, rfl⟩ : ∃ t, t < 4 ∧ v = 8 + t := ⟨v - 8, by omega, by omega⟩
      rw [if_neg w, mp_wst ok s ht]
      have et : 8 + t - 8 = t := by omega
      rw [et]
      show (mp_gl _ _ 8 0).filterMap id = _
      rw [mp_gl_fl, mp_fl_flatMap]
      apply mp_fl_congr
      intro m _ hm
      by_cases a : mp_app P t m s = true
      · obtain ⟨k1, k2⟩ := ok.2 t m s ht (by omega) a
        obtain ⟨c1, c2, c3⟩ := mp_ch_ok (P := P) (m := m) ht k1 k2 ha
        rw [if_pos a, if_pos a, mp_R_sq ok n _ _ _ (by omega) c1, mp_sq_ch]
      · rw [if_neg a, if_neg a]
        rfl
theorem mp_R_ws {P : mp_PB} (ok : mp_ok P) {t : Nat} (ht : t < 4) (s : Nat) : (mp_R P 40 [8 + t] s [] []).filterMap id = mp_ws P (8 + t) s := by
  have hb : ∀ t, t < 4 → mp_sa [8 + t] + mp_sx [8 + t] < 40 := by decide
  have h := mp_R_sq ok 40 [8 + t] s [] (hb t ht) (fun v hv => by
    rw [List.mem_singleton] at hv
    omega)
  rw [h]
  show (mp_ws P (8 + t) s).flatMap (fun x => [(x.1, [] ++ x.2)]) = _
  simp
