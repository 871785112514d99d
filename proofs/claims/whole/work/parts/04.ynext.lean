theorem yw_nb (b : Bool) : narrow .boolean (.int (if b then 1 else 0)) = .int (if b then 1 else 0) := by cases b <;> rfl
theorem yw_carry (wr bs : Int32) (co ef th ta de sp li be : Nat → Int32) {K : Nat} (hK : K ≤ 15) (hok : yp_ok th ta sp) :
    ∀ (n F : Nat) (post : Int32 → SY → Prop) (ag : List Nat) (s : Nat) (p cs : List Nat) (j : Nat) (ch ga pl : Nat → Int32),
    mp_sa ag + mp_sx ag < n → n < F → mp_av ag → s < 32 → j + mp_sx ag ≤ 15 → p.length + mp_sa ag ≤ 16 →
    yw_AG ga ag → yw_CH pl 0 p → yw_CH ch j cs → K ≤ j + cs.length → (cs ≠ [] → K = j + cs.length) → mp_V (yp_P co ef th ta de sp) n ag s cs →
    (∀ (es : List Nat) (lf : Option (Nat × List Nat)) (op' st' ps' : Int32) (ch' ga' pl' : Nat → Int32),
      mp_R (yp_P co ef th ta de sp) n ag s p cs = lf :: (if es = [] then [] else mp_R (yp_P co ef th ta de sp) n ag s p (mp_inc es)) →
      (es ≠ [] → mp_V (yp_P co ef th ta de sp) n ag s (mp_inc es)) →
      yw_CH ch' j es → (∀ i, i < j → ch' i = ch i) → es.length ≤ mp_sx ag →
      (∀ e q, lf = some (e, q) → e < 32 ∧ st' = nI e ∧ ps' = nI q.length ∧ yw_CH pl' 0 q ∧ q.length ≤ 16) →
      (∀ v a', ag = v :: a' → 8 ≤ v → es = [] → lf = none) →
      post (if lf.isSome then 1 else 0) (wr, nI K, nI (j + es.length), op', st', ps', bs, co, ef, th, ta, de, sp, li, ch', ga', pl', be)) →
    wY_carryOut_30 post F 1 wr (nI K) (nI j) (nI ag.length) (nI s) (nI p.length) bs co ef th ta de sp li ch ga pl be := by
  intro n
  induction n with
  | zero => intro F post ag s p cs j ch ga pl h; omega
  | succ n ih =>
    intro F post ag s p cs j ch ga pl hn hF hav hs hj hp hga hpl hch hK1 hK2 hV H
    obtain ⟨F, rfl⟩ : ∃ n, F = n + 1 := ⟨F - 1, by omega⟩
    cases ag with
    | nil =>
      refine br_t (nI_le (Nat.le_refl 0) (by decide)) ⟨rfl, ?_⟩
      refine H [] (some (s, p)) (nI 0) (nI s) (nI p.length) ch ga pl rfl (fun z => absurd rfl z) trivial (fun _ _ => rfl) (Nat.zero_le _) ?_ ?_
      · intro e q h
        injection h with h
        injection h with h1 h2
        subst h1 h2
        exact ⟨hs, rfl, rfl, hpl, by omega⟩
      · intro v a' h
        exact nomatch h
    | cons v a =>
      have hv := hav v List.mem_cons_self
      have ha : mp_av a := fun w hw => hav w (List.mem_cons_of_mem _ hw)
      have hp1 := mp_an_pos v
      have hs1 : mp_sa (v :: a) = mp_an v + mp_sa a := rfl
      have hx1 : mp_sx (v :: a) = mp_tn v + mp_sx a := rfl
      have hl1 := mp_len_sa a
      have hlen : (v :: a).length = a.length + 1 := rfl
      rw [hlen]
      refine br_f (nI_nle (by omega) (by omega)) (br_f (by decide) (nm_r (nI_pred _) ⟨vp_in_nI (by omega) (by decide), ?_⟩))
      rw [nI_clamp (by omega : a.length < 2 ^ 31), hga.1]
      refine nm_e ?_
      have stop : ∀ (F : Nat) (md op st ps : Int32) (ch ga pl : Nat → Int32), 0 < F → post 0 (wr, nI K, md, op, st, ps, bs, co, ef, th, ta, de, sp, li, ch, ga, pl, be) → wY_carryOut_30 post F 0 wr (nI K) md op st ps bs co ef th ta de sp li ch ga pl be := by
        intro F md op st ps ch ga pl hF hpost
        obtain ⟨F, rfl⟩ : ∃ n, F = n + 1 := ⟨F - 1, by omega⟩
        exact br_c (fun _ => ⟨rfl, hpost⟩) (fun _ => br_t rfl ⟨rfl, hpost⟩)
      by_cases w : v < 8
      · obtain ⟨b, rfl⟩ : ∃ b, v = b + 1 := ⟨v - 1, by omega⟩
        refine br_t (nI_lt (b := 8) w (by decide)) ?_
        rw [nI_pred, nI_clamp (by omega : b < 2 ^ 31)]
        refine ⟨vp_in_nI (by omega) (by decide), ?_⟩
        apply yw_holds
        refine yw_changed _ _ _ _ _ _ _ _ _ _ _ _ _ _ _ _ _ _ (by omega) hs ?_
        refine ⟨vp_in_nI (by omega) (by decide), ?_⟩
        rw [nI_clamp (by omega : p.length < 2 ^ 31)]
        refine nm_e (nm_r (nI_1 _) ?_)
        have hpl' : yw_CH (upd pl p.length (nI b)) 0 (p ++ [b]) := yw_CH_app.mpr ⟨yw_CH_cong (fun i _ h2 => pk_un (by omega)) hpl, by
          have : 0 + p.length = p.length := by omega
          rw [this]; exact pk_us⟩
        have hRa : ∀ cs', mp_R (yp_P co ef th ta de sp) (n + 1) ((b + 1) :: a) s p cs' = if yp_hI (co b) s then mp_R (yp_P co ef th ta de sp) n a (yp_chg (ef b) s) (p ++ [b]) cs' else [none] := by
          intro cs'
          show (if b + 1 < 8 then _ else _) = _
          rw [if_pos w]
          rfl
        by_cases x : yp_hI (co b) s = true
        · rw [if_pos x]
          have hlp : (p ++ [b]).length = p.length + 1 := by simp
          rw [← hlp]
          have hV' : mp_V (yp_P co ef th ta de sp) n a (yp_chg (ef b) s) cs := by
            have hV1 : (if b + 1 < 8 then _ else _) := hV
            rw [if_pos w] at hV1
            rcases hV1 with e | e
            · subst e
              cases n with
              | zero => rfl
              | succ n =>
                cases a with
                | nil => rfl
                | cons v' a' =>
                  show (if v' < 8 then _ else _)
                  split
                  · exact Or.inl rfl
                  · trivial
            · exact e.2
          refine ih F post a (yp_chg (ef b) s) (p ++ [b]) cs j ch ga (upd pl p.length (nI b)) (by omega) (by omega) ha (yp_ex_eq _ hs).2 (by omega) (by omega) hga.2 hpl' hch hK1 hK2 hV' ?_
          intro es lf op' st' ps' ch' ga' pl' r1 r2 r3 r4 r5 r6 r7
          refine H es lf op' st' ps' ch' ga' pl' ?_ ?_ r3 r4 (by omega) r6 ?_
          · rw [hRa, hRa, if_pos x, if_pos x]
            exact r1
          · intro hes
            show (if b + 1 < 8 then _ else _)
            rw [if_pos w]
            exact Or.inr ⟨x, r2 hes⟩
          · intro v' a' e hv' _
            injection e with e1 e2
            omega
        · rw [if_neg x]
          refine stop F _ _ _ _ _ _ _ (by omega) ?_
          refine H [] none _ _ _ _ _ _ ?_ (fun z => absurd rfl z) trivial (fun _ _ => rfl) (Nat.zero_le _) (fun e q h => nomatch h) (fun _ _ _ _ _ => rfl)
          rw [hRa, if_neg x]
          rfl
      · obtain ⟨t, ht, rfl⟩ : ∃ t, t < 4 ∧ v = 8 + t := ⟨v - 8, by omega, by omega⟩
        refine br_f (nI_nlt (b := 8) (by omega) (by omega)) ?_
        have e8 : nI (8 + t) - 8 = nI t := by
          have := pk_sub (a := 8 + t) (b := 8) (by omega)
          have e : 8 + t - 8 = t := by omega
          rw [e] at this
          exact this
        rw [e8]
        have et : 8 + t - 8 = t := by omega
        have noth : wY_choose_73 (fun r_70 u => match u with | (wr, kn, md, op, st, ps, bs, co, ef, th, ta, de, sp, li, ch, ga, pl, be) => (wY_carryOut_30 post F r_70 wr kn md op st ps bs co ef th ta de sp li ch ga pl be)) (nI 8) wr (nI K) (nI j) (nI a.length) (nI s) (nI p.length) bs co ef th ta de sp li ch ga pl be → True := fun _ => trivial
        have fail : mp_R (yp_P co ef th ta de sp) (n + 1) ((8 + t) :: a) s p cs = [none] → wY_choose_73 (fun r_70 u => match u with | (wr, kn, md, op, st, ps, bs, co, ef, th, ta, de, sp, li, ch, ga, pl, be) => (wY_carryOut_30 post F r_70 wr kn md op st ps bs co ef th ta de sp li ch ga pl be)) (nI 8) wr (nI K) (nI j) (nI a.length) (nI s) (nI p.length) bs co ef th ta de sp li ch ga pl be := by
          intro hR
          refine br_t rfl ?_
          refine stop F _ _ _ _ _ _ _ (by omega) ?_
          exact H [] none _ _ _ _ _ _ hR (fun z => absurd rfl z) trivial (fun _ _ => rfl) (Nat.zero_le _) (fun e q h => nomatch h) (fun _ _ _ _ _ => rfl)
        have pick : ∀ m cs', m < 8 → mp_app (yp_P co ef th ta de sp) t m s = true → yw_CH ch (j + 1) cs' → K ≤ j + 1 + cs'.length → (cs' ≠ [] → K = j + 1 + cs'.length) → mp_V (yp_P co ef th ta de sp) n (mp_ch (yp_P co ef th ta de sp) m a) s cs' →
            mp_R (yp_P co ef th ta de sp) (n + 1) ((8 + t) :: a) s p cs = mp_R (yp_P co ef th ta de sp) n (mp_ch (yp_P co ef th ta de sp) m a) s p cs' ++ mp_gl (fun m => mp_app (yp_P co ef th ta de sp) t m s) (fun m => mp_R (yp_P co ef th ta de sp) n (mp_ch (yp_P co ef th ta de sp) m a) s p []) (8 - (m + 1)) (m + 1) →
            wY_choose_73 (fun r_70 u => match u with | (wr, kn, md, op, st, ps, bs, co, ef, th, ta, de, sp, li, ch, ga, pl, be) => (wY_carryOut_30 post F r_70 wr kn md op st ps bs co ef th ta de sp li ch ga pl be)) (nI m) wr (nI K) (nI j) (nI a.length) (nI s) (nI p.length) bs co ef th ta de sp li ch ga pl be := by
          intro m cs' hm hap hc1 hc2 hc3 hV' hR
          obtain ⟨q1, q2, q3⟩ := yp_app.mp hap
          obtain ⟨t', k, ht', e1, hk, e2, s1, s2⟩ := (hok m hm).2 q1
          obtain ⟨g1, g2⟩ := (yp_mok (co := co) (ef := ef) (de := de) hok).2 t m s ht hm hap
          obtain ⟨c1, c2, c3⟩ := mp_ch_ok (P := yp_P co ef th ta de sp) (m := m) ht g1 g2 ha
          refine yw_pick _ _ _ _ _ _ _ _ _ _ _ _ _ _ _ _ hm hk e2 (by omega) (by omega) hga.2 ?_
          intro ga' hga'
          refine ih F post _ s p cs' (j + 1) (upd ch j (nI m)) ga' pl (by omega) (by omega) c1 hs (by omega) (by omega) hga' hpl (yw_CH_cong (fun i h1 _ => pk_un (by omega)) hc1) hc2 hc3 hV' ?_
          intro es lf op' st' ps' ch' ga' pl' r1 r2 r3 r4 r5 r6 r7
          have ej : j + 1 + es.length = j + (m :: es).length := by
            show _ = j + (es.length + 1)
            omega
          rw [ej]
          refine H (m :: es) lf op' st' ps' ch' ga' pl' ?_ ?_ ?_ ?_ ?_ r6 (fun _ _ _ _ z => nomatch z)
          · rw [if_neg (List.cons_ne_nil _ _), hR, r1, mp_R_pick w, et]
            rfl
          · intro _
            exact mp_V_pick w hm (by rw [et]; exact hap) r2
          · exact ⟨(r4 j (by omega)).trans pk_us, r3⟩
          · intro i hi
            exact (r4 i (by omega)).trans (pk_un (by omega))
          · show es.length + 1 ≤ _
            omega
        have run : ∀ c, c ≤ 8 → (cs = [] ∨ cs = [c]) → mp_R (yp_P co ef th ta de sp) (n + 1) ((8 + t) :: a) s p cs = mp_gl (fun m => mp_app (yp_P co ef th ta de sp) t m s) (fun m => mp_R (yp_P co ef th ta de sp) n (mp_ch (yp_P co ef th ta de sp) m a) s p []) (8 - c) c →
            ∃ n25, wY_choose_25 (fun r_70 u => match u with | (wr, kn, md, op, st, ps, bs, co, ef, th, ta, de, sp, li, ch, ga, pl, be) => (wY_carryOut_30 post F r_70 wr kn md op st ps bs co ef th ta de sp li ch ga pl be)) (nI t) wr (nI K) (nI j) (nI a.length) (nI s) (nI p.length) bs co ef th ta de sp li ch ga pl be n25 (nI c) := by
          intro c hc hcs hR
          refine ⟨9, yw_choose25 _ _ _ _ _ _ _ _ _ _ _ _ _ _ _ _ _ (8 - c) c 9 (by omega) (by omega) (fun hall => fail ?_) (fun m h1 h2 h3 h4 => ?_)⟩
          · rw [hR]
            exact mp_gl_none _ _ (fun m a1 a2 => hall m a1 (by omega))
          · have hlen : cs.length ≤ 1 := by
              rcases hcs with e | e
              · rw [e]; exact Nat.zero_le _
              · rw [e]; exact Nat.le_refl _
            refine pick m [] h2 h3 trivial (by show K ≤ j + 1 + 0; omega) (fun z => absurd rfl z) ?_ ?_
            · cases n with
              | zero => rfl
              | succ n =>
                cases mp_ch (yp_P co ef th ta de sp) m a with
                | nil => rfl
                | cons v' a' =>
                  show (if v' < 8 then _ else _)
                  split
                  · exact Or.inl rfl
                  · trivial
            · rw [hR]
              have e := mp_gl_some (q := fun m => mp_app (yp_P co ef th ta de sp) t m s) (f := fun m => mp_R (yp_P co ef th ta de sp) n (mp_ch (yp_P co ef th ta de sp) m a) s p []) h3 (8 - c) c h1 (by omega) h4
              have e2 : c + (8 - c) - (m + 1) = 8 - (m + 1) := by omega
              rw [e2] at e
              exact e
        have hRt : ∀ cs', mp_R (yp_P co ef th ta de sp) (n + 1) ((8 + t) :: a) s p cs' = (match cs' with
            | [] => mp_gl (fun m => mp_app (yp_P co ef th ta de sp) t m s) (fun m => mp_R (yp_P co ef th ta de sp) n (mp_ch (yp_P co ef th ta de sp) m a) s p []) 8 0
            | [c] => mp_gl (fun m => mp_app (yp_P co ef th ta de sp) t m s) (fun m => mp_R (yp_P co ef th ta de sp) n (mp_ch (yp_P co ef th ta de sp) m a) s p []) (8 - c) c
            | c :: c' :: cs' => mp_R (yp_P co ef th ta de sp) n (mp_ch (yp_P co ef th ta de sp) c a) s p (c' :: cs') ++ mp_gl (fun m => mp_app (yp_P co ef th ta de sp) t m s) (fun m => mp_R (yp_P co ef th ta de sp) n (mp_ch (yp_P co ef th ta de sp) m a) s p []) (8 - (c + 1)) (c + 1)) := by
          intro cs'
          show (if 8 + t < 8 then _ else _) = _
          rw [if_neg w, et]
          rfl
        match cs, hch, hK1, hK2, hV, run, pick, hRt with
        | [], hch, hK1, hK2, hV, run, pick, hRt =>
          have hk0 : K ≤ j := hK1
          exact br_t (nI_le hk0 (by omega)) (run 0 (by omega) (Or.inl rfl) (hRt []))
        | [c], hch, hK1, hK2, hV, run, pick, hRt =>
          have hk0 : K = j + 1 := hK2 (List.cons_ne_nil _ _)
          have hV1 : (if 8 + t < 8 then _ else _) := hV
          rw [if_neg w] at hV1
          have hc8 : c ≤ 8 := hV1
          refine br_f (nI_ge (by omega) (by omega)) ⟨vp_in_nI (by omega) (by decide), ?_⟩
          rw [nI_clamp (by omega : j < 2 ^ 31), hch.1]
          exact nm_e (run c hc8 (Or.inr rfl) (hRt [c]))
        | c :: c' :: cs', hch, hK1, hK2, hV, run, pick, hRt =>
          have hk0 : K = j + (cs'.length + 1 + 1) := hK2 (List.cons_ne_nil _ _)
          have hV1 : (if 8 + t < 8 then _ else _) := hV
          rw [if_neg w] at hV1
          obtain ⟨hc8, hap, hV2⟩ : c < 8 ∧ mp_app (yp_P co ef th ta de sp) (8 + t - 8) c s = true ∧ mp_V (yp_P co ef th ta de sp) n (mp_ch (yp_P co ef th ta de sp) c a) s (c' :: cs') := hV1
          rw [et] at hap
          refine br_f (nI_ge (by omega) (by omega)) ⟨vp_in_nI (by omega) (by decide), ?_⟩
          rw [nI_clamp (by omega : j < 2 ^ 31), hch.1]
          refine nm_e ⟨9, yw_choose25 _ _ _ _ _ _ _ _ _ _ _ _ _ _ _ _ _ (8 - c) c 9 (by omega) (by omega) (fun hall => ?_) (fun m h1 h2 h3 h4 => ?_)⟩
          · have := hall c (Nat.le_refl c) hc8
            rw [hap] at this
            exact nomatch this
          · by_cases z : m = c
            · subst z
              refine pick m (c' :: cs') hc8 hap hch.2 (by show K ≤ j + 1 + (cs'.length + 1); omega) (fun _ => by show K = j + 1 + (cs'.length + 1); omega) hV2 (hRt _)
            · have := h4 c (Nat.le_refl c) (by omega)
              rw [hap] at this
              exact nomatch this
