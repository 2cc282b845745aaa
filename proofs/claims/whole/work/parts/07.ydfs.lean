theorem rr_pm : ∀ e, e < 9 → ∀ s, s < 9 → (nI e + (-1) < nI s ↔ e ≤ s) := by decide +kernel
theorem rr_t3 : ∀ t, t < 3 → ¬ nI t = 3 := by decide +kernel
theorem rr_ns_ge (f : Nat) (q : Nat → Nat) {j t : Nat} (h1 : 3 ≤ j + t) (h2 : t < 3) (h3 : j ≤ 3) : rr_nk f t q + rr_ns f q (2 - t) ≤ rr_ns f q j := by
  have f0 : rr_ns f q 0 = 0 := rfl
  have f1 : rr_ns f q 1 = rr_nk f 2 q + rr_ns f q 0 := rfl
  have f2 : rr_ns f q 2 = rr_nk f 1 q + rr_ns f q 1 := rfl
  have f3 : rr_ns f q 3 = rr_nk f 0 q + rr_ns f q 2 := rfl
  rcases (show t = 0 ∨ t = 1 ∨ t = 2 by omega) with rfl | rfl | rfl
  · show rr_nk f 0 q + rr_ns f q 2 ≤ _
    obtain rfl : j = 3 := by omega
    omega
  · show rr_nk f 1 q + rr_ns f q 1 ≤ _
    rcases (show j = 2 ∨ j = 3 by omega) with rfl | rfl <;> omega
  · show rr_nk f 2 q + rr_ns f q 0 ≤ _
    rcases (show j = 1 ∨ j = 2 ∨ j = 3 by omega) with rfl | rfl | rfl <;> omega
theorem rr_ls_ge (f : Nat) (q : Nat → Nat) {j t : Nat} (h1 : 3 ≤ j + t) (h2 : t < 3) (h3 : j ≤ 3) : rr_lk f t q + rr_ls f q (2 - t) ≤ rr_ls f q j := by
  have f0 : rr_ls f q 0 = 0 := rfl
  have f1 : rr_ls f q 1 = rr_lk f 2 q + rr_ls f q 0 := rfl
  have f2 : rr_ls f q 2 = rr_lk f 1 q + rr_ls f q 1 := rfl
  have f3 : rr_ls f q 3 = rr_lk f 0 q + rr_ls f q 2 := rfl
  rcases (show t = 0 ∨ t = 1 ∨ t = 2 by omega) with rfl | rfl | rfl
  · show rr_lk f 0 q + rr_ls f q 2 ≤ _
    obtain rfl : j = 3 := by omega
    omega
  · show rr_lk f 1 q + rr_ls f q 1 ≤ _
    rcases (show j = 2 ∨ j = 3 by omega) with rfl | rfl <;> omega
  · show rr_lk f 2 q + rr_ls f q 0 ≤ _
    rcases (show j = 1 ∨ j = 2 ∨ j = 3 by omega) with rfl | rfl | rfl <;> omega
theorem rr_from_skip {sz ks os r : Nat → Int32} {g : (Nat → Int32) → List (Nat → Int32) → List (Nat → Int32)} : ∀ j i, i ≤ j → j ≤ 3 → (∀ s, 3 - j ≤ s → s < 3 - i → rr_en sz ks os s r = false) → ∀ a, rr_from sz ks os g r j a = rr_from sz ks os g r i a := by
  intro j
  induction j with
  | zero => intro i hi _ _ a; obtain rfl : i = 0 := by omega
            rfl
  | succ j ih =>
    intro i hi hj h a
    rcases Nat.decEq i (j + 1) with z | z
    · show rr_from sz ks os g r j (rr_kid sz ks os g (2 - j) r a) = _
      rw [rr_kid_f (h (2 - j) (by omega) (by omega))]
      exact ih i (by omega) (by omega) (fun s h1 h2 => h s (by omega) h2) a
    · rw [z]
theorem rr_from_kid {sz ks os r : Nat → Int32} {g : (Nat → Int32) → List (Nat → Int32) → List (Nat → Int32)} {t : Nat} (ht : t < 3) (he : rr_en sz ks os t r = true) (a : List (Nat → Int32)) : rr_from sz ks os g r (3 - t) a = rr_from sz ks os g r (2 - t) (g (rr_st ks os t r) a) := by
  rw [← rr_kid_t (g := g) (a := a) he]
  rcases (show t = 0 ∨ t = 1 ∨ t = 2 by omega) with rfl | rfl | rfl <;> rfl
theorem rr_arr_Fo {sz ks os : Nat → Int32} {S p : Nat → Nat} {r : Nat → Int32} {acc : List (Nat → Int32)} (h : rr_Fo S acc) (hR : rr_Rk S r p) : rr_Fo S (rr_arr sz ks os r acc) := by
  unfold rr_arr
  by_cases z : rr_any sz ks os r = true
  · rw [if_pos z]; exact h
  · rw [if_neg z]; exact rr_Fo_note h hR
theorem rr_from_Fo {sz ks os : Nat → Int32} {S : Nat → Nat} (hP : rr_Pg sz ks os S) {g : (Nat → Int32) → List (Nat → Int32) → List (Nat → Int32)} (hg : ∀ r p a, rr_Rk S r p → rr_Fo S a → rr_Fo S (g r a)) {r : Nat → Int32} {p : Nat → Nat} (hR : rr_Rk S r p) : ∀ j, j ≤ 3 → ∀ a, rr_Fo S a → rr_Fo S (rr_from sz ks os g r j a) := by
  intro j
  induction j with
  | zero => intro _ a h; exact h
  | succ j ih =>
    intro hj a h
    show rr_Fo S (rr_from sz ks os g r j (rr_kid sz ks os g (2 - j) r a))
    refine ih (by omega) _ ?_
    rcases z : rr_en sz ks os (2 - j) r with _ | _
    · rw [rr_kid_f z]; exact h
    · rw [rr_kid_t z]; exact hg _ _ _ (rr_st_Rk hP hR (by omega) z) h
theorem rr_dfs_Fo {sz ks os : Nat → Int32} {S : Nat → Nat} (hP : rr_Pg sz ks os S) : ∀ f r p a, rr_Rk S r p → rr_Fo S a → rr_Fo S (rr_dfs sz ks os f r a) := by
  intro f
  induction f with
  | zero => intro r p a _ h; exact h
  | succ f ih => intro r p a hR h; exact rr_from_Fo hP ih hR 3 (by omega) _ (rr_arr_Fo h hR)
/-- what the arrival at a child needs of the room -/
theorem rr_room {sz ks os : Nat → Int32} {S p : Nat → Nat} {r : Nat → Int32} {f : Nat} {acc : List (Nat → Int32)} (hP : rr_Pg sz ks os S) (hR : rr_Rk S r p) (h : acc.length + rr_LV (f + 1) (rr_rm S p) ≤ 560) : acc.length < 560 ∧ (rr_any sz ks os r = true → (rr_arr sz ks os r acc).length + rr_ls f (rr_rm S p) 3 ≤ 560) := by
  have := rr_LV_pos (f + 1) (rr_rm S p)
  refine ⟨by omega, fun z => ?_⟩
  have e : rr_arr sz ks os r acc = acc := if_pos z
  rw [e]
  rw [rr_LV_s] at h
  have hne : rr_rm S p 0 + rr_rm S p 1 + rr_rm S p 2 ≠ 0 := by
    have key : ∀ t, t < 3 → rr_en sz ks os t r = true → rr_rm S p t ≠ 0 := by
      intro t ht he
      have := (rr_lt hP hR ht).mp (rr_en_lt he)
      unfold rr_rm; omega
    unfold rr_any at z
    rcases h0 : rr_en sz ks os 0 r with _ | _
    · rcases h1 : rr_en sz ks os 1 r with _ | _
      · rcases h2 : rr_en sz ks os 2 r with _ | _
        · rw [h0, h1, h2] at z; cases z
        · have := key 2 (by omega) h2; omega
      · have := key 1 (by omega) h1; omega
    · have := key 0 (by omega) h0; omega
  rw [if_neg hne] at h
  exact h
theorem rr_rm_kid {S p : Nat → Nat} {t f : Nat} (ht : t < 3) (hl : p t < S t) (h : rr_rm S p 0 + rr_rm S p 1 + rr_rm S p 2 ≤ f + 1) : rr_rm S (rr_inc t p) 0 + rr_rm S (rr_inc t p) 1 + rr_rm S (rr_inc t p) 2 ≤ f := by
  have h0 : rr_rm S p t ≠ 0 := by unfold rr_rm; omega
  rw [rr_rm_inc hl]; unfold rr_dec
  rcases (show t = 0 ∨ t = 1 ∨ t = 2 by omega) with rfl | rfl | rfl <;> simp <;> omega
section
variable {bg ks os sz rl sm kp : Nat → Int32} {S : Nat → Nat}
theorem yg_node (hP : rr_Pg sz ks os S) {post : SY → Prop} {s0 : Nat} : ∀ f r p e, rr_Rk S r p → rr_rm S p 0 + rr_rm S p 1 + rr_rm S p 2 ≤ f → p 0 + p 1 + p 2 = e → s0 ≤ e → ∀ n1,
    ∀ j t, t + j = 3 → ∀ acc va rg ho pl dn ol tr fd n,
      rr_Yr r va rg ho pl → rr_Fy sz acc fd → rr_Fo S acc → (rr_any sz ks os r = true → acc.length + rr_ls f (rr_rm S p) j ≤ 560) → tr e + 1 = nI t →
      (e = s0 → ∀ va' rg' ho' pl' dn' ol' tr' fd' n', n1 ≤ n' → rr_Yr r va' rg' ho' pl' → rr_Fy sz (rr_from sz ks os (rr_dfs sz ks os f) r j acc) fd' → (∀ i, i < e → dn' i = dn i ∧ ol' i = ol i ∧ tr' i = tr i) →
        wY_goThrough_41 post (nI s0) n' (nI e + (-1)) (nI e) (nI (rr_from sz ks os (rr_dfs sz ks os f) r j acc).length) (nI (rr_dd sz (rr_from sz ks os (rr_dfs sz ks os f) r j acc))) ks os sz bg va' rg' ho' pl' dn' ol' rl sm kp tr' fd') →
      (s0 < e → ∃ r0 p0 t0 e0, e = e0 + 1 ∧ rr_Rk S r0 p0 ∧ t0 < 3 ∧ rr_en sz ks os t0 r0 = true ∧ r = rr_st ks os t0 r0 ∧ dn e0 = nI (rr_op t0 r0) ∧ rr_Ol ks os t0 r0 (ol e0) ∧
        ∀ va' rg' ho' pl' dn' ol' tr' fd' n', n1 ≤ n' → rr_Yr r0 va' rg' ho' pl' → rr_Fy sz (rr_from sz ks os (rr_dfs sz ks os f) r j acc) fd' → (∀ i, i < e → dn' i = dn i ∧ ol' i = ol i ∧ tr' i = tr i) →
        wY_goThrough_41 post (nI s0) n' (nI e0) (nI e0) (nI (rr_from sz ks os (rr_dfs sz ks os f) r j acc).length) (nI (rr_dd sz (rr_from sz ks os (rr_dfs sz ks os f) r j acc))) ks os sz bg va' rg' ho' pl' dn' ol' rl sm kp tr' fd') →
      n1 + 1 + 2 * rr_ns f (rr_rm S p) j ≤ n →
      wY_goThrough_41 post (nI s0) n (nI e) (nI e) (nI acc.length) (nI (rr_dd sz acc)) ks os sz bg va rg ho pl dn ol rl sm kp tr fd := by
  intro f
  induction f using Nat.strongRecOn with
  | _ f ihf =>
  intro r p e hR hf hpe hs n1 j
  induction j using Nat.strongRecOn with
  | _ j ihj =>
  intro t htj acc va rg ho pl dn ol tr fd n hY hF hO hB htr hroot hinn hn
  have he8 : e ≤ 8 := by
    have h0 := (hR.1 0 (by omega)).2
    have h1 := (hR.1 1 (by omega)).2
    have h2 := (hR.1 2 (by omega)).2
    have := hP.2.1
    omega
  obtain ⟨n, rfl⟩ : ∃ m, n = m + 1 := ⟨n - 1, by omega⟩
  have ce : (nI e).toNatClampNeg = e := nI_clamp (by omega)
  have ve : vp_in (nI e) 9 := pk_in e 9 (by omega) rfl
  refine br_f (nI_nlt hs (by omega)) ⟨ve, ys_next hP hR hY (show tr (nI e).toNatClampNeg + 1 = nI t by rw [ce]; exact htr) (by omega) (fun t' h1 h2 h3 h4 => ⟨ve, nm_r (show _ = upd tr e (nI t') by rw [ce]) ?_⟩)⟩
  rcases Nat.lt_or_ge t' 3 with ht3 | ht3
  · have hen := h4 ht3
    have hl := (rr_lt hP hR ht3).mp (rr_en_lt hen)
    have hrm : rr_rm S p t' ≠ 0 := by unfold rr_rm; omega
    obtain ⟨f, rfl⟩ : ∃ m, f = m + 1 := ⟨f - 1, by
      rcases (show t' = 0 ∨ t' = 1 ∨ t' = 2 by omega) with rfl | rfl | rfl <;> omega⟩
    have he : e < 8 := by
      have h0 := (hR.1 0 (by omega)).2
      have h1 := (hR.1 1 (by omega)).2
      have h2 := (hR.1 2 (by omega)).2
      have := hP.2.1
      rcases (show t' = 0 ∨ t' = 1 ∨ t' = 2 by omega) with rfl | rfl | rfl <;> omega
    rw [rr_from_skip j (3 - t') (by omega) (by omega) (fun s a b => h3 s (by omega) (by omega)) acc, rr_from_kid ht3 hen] at hroot hinn
    refine br_f (rr_t3 t' ht3) (ys_go hP hR ht3 hen he hY (fun va1 rg1 ho1 pl1 dn1 ol1 hY1 hd1 ho1' hfr => ?_))
    refine nm_r (nI_1 e) ⟨pk_in (e + 1) 9 (by omega) rfl, nm_r (show _ = upd (upd tr e (nI t')) (e + 1) (-1) by rw [nI_clamp (by omega)]) ?_⟩
    have hR1 := rr_st_Rk hP hR ht3 hen
    have hbk := hB (rr_any_t ht3 hen)
    have hge := rr_ls_ge (f + 1) (rr_rm S p) (j := j) (t := t') (by omega) ht3 (by omega)
    have hnge := rr_ns_ge (f + 1) (rr_rm S p) (j := j) (t := t') (by omega) ht3 (by omega)
    have hlk : rr_lk (f + 1) t' (rr_rm S p) = rr_LV (f + 1) (rr_rm S (rr_inc t' p)) := by unfold rr_lk; rw [if_neg hrm, rr_rm_inc hl]
    have hnk : rr_nk (f + 1) t' (rr_rm S p) = 1 + rr_ns f (rr_rm S (rr_inc t' p)) 3 := by unfold rr_nk; rw [if_neg hrm, ← rr_rm_inc hl, rr_ND_s]
    have hroom := rr_room hP hR1 (f := f) (acc := acc) (by rw [← hlk]; omega)
    have hrk := rr_rm_kid ht3 hl hf
    have hlen := (rr_dfs_len hP (f + 1) (rr_st ks os t' r) (rr_inc t' p) acc hR1 (by omega)).2.1
    have main : ∀ fd1, rr_Fy sz (rr_arr sz ks os (rr_st ks os t' r) acc) fd1 → wY_goThrough_41 post (nI s0) n (nI (e + 1)) (nI (e + 1)) (nI (rr_arr sz ks os (rr_st ks os t' r) acc).length) (nI (rr_dd sz (rr_arr sz ks os (rr_st ks os t' r) acc))) ks os sz bg va1 rg1 ho1 pl1 dn1 ol1 rl sm kp (upd (upd tr e (nI t')) (e + 1) (-1)) fd1 := by
      intro fd1 hF1
      refine ihf f (by omega) (rr_st ks os t' r) (rr_inc t' p) (e + 1) hR1 hrk (by rw [rr_inc_sum ht3]; omega) (by omega) (n1 + 1 + 2 * rr_ns (f + 1) (rr_rm S p) (2 - t')) 3 0 rfl (rr_arr sz ks os (rr_st ks os t' r) acc) va1 rg1 ho1 pl1 dn1 ol1 (upd (upd tr e (nI t')) (e + 1) (-1)) fd1 n hY1 hF1 (rr_arr_Fo hO hR1) hroom.2 (by rw [pk_us]; rfl) (fun z => by omega) (fun _ => ⟨r, p, t', e, rfl, hR, ht3, hen, rfl, hd1, ho1', ?_⟩) (by omega)
      intro va2 rg2 ho2 pl2 dn2 ol2 tr2 fd2 n2 hn2 hY2 hF2 hfr2
      have fr : ∀ i, i < e → dn2 i = dn i ∧ ol2 i = ol i ∧ tr2 i = tr i := by
        intro i hi
        obtain ⟨x, y, z⟩ := hfr2 i (by omega)
        obtain ⟨x', y'⟩ := hfr i (by omega)
        exact ⟨x.trans x', y.trans y', by rw [z, pk_un (by omega), pk_un (by omega)]⟩
      have tre : tr2 e + 1 = nI (t' + 1) := by
        rw [(hfr2 e (by omega)).2.2, pk_un (by omega), pk_us]; exact nI_1 t'
      refine ihj (2 - t') (by omega) (t' + 1) (by omega) (rr_dfs sz ks os (f + 1) (rr_st ks os t' r) acc) va2 rg2 ho2 pl2 dn2 ol2 tr2 fd2 n2 hY2 hF2 (rr_dfs_Fo hP _ _ _ _ hR1 hO) (fun _ => by omega) tre ?_ ?_ hn2
      · intro z va3 rg3 ho3 pl3 dn3 ol3 tr3 fd3 n3 hn3 hY3 hF3 hfr3
        exact hroot z va3 rg3 ho3 pl3 dn3 ol3 tr3 fd3 n3 hn3 hY3 hF3 (fun i hi => ⟨(hfr3 i hi).1.trans (fr i hi).1, (hfr3 i hi).2.1.trans (fr i hi).2.1, (hfr3 i hi).2.2.trans (fr i hi).2.2⟩)
      · intro z
        obtain ⟨r0, p0, t0, e0, he0, hR0, ht0, hen0, hr0, hd0, ho0, hc⟩ := hinn z
        refine ⟨r0, p0, t0, e0, he0, hR0, ht0, hen0, hr0, by rw [(fr e0 (by omega)).1]; exact hd0, by rw [(fr e0 (by omega)).2.1]; exact ho0, ?_⟩
        intro va3 rg3 ho3 pl3 dn3 ol3 tr3 fd3 n3 hn3 hY3 hF3 hfr3
        exact hc va3 rg3 ho3 pl3 dn3 ol3 tr3 fd3 n3 hn3 hY3 hF3 (fun i hi => ⟨(hfr3 i hi).1.trans (fr i hi).1, (hfr3 i hi).2.1.trans (fr i hi).2.1, (hfr3 i hi).2.2.trans (fr i hi).2.2⟩)
    refine ys_next hP hR1 hY1 (show (-1 : Int32) + 1 = nI 0 from rfl) (by omega) (fun t2 g1 g2 g3 g4 => ?_)
    rcases Nat.lt_or_ge t2 3 with q | q
    · have e1 : rr_arr sz ks os (rr_st ks os t' r) acc = acc := if_pos (rr_any_t q (g4 q))
      rw [e1] at main
      exact br_f (rr_t3 t2 q) (main fd hF)
    · obtain rfl : t2 = 3 := by omega
      have nn : ¬ rr_any sz ks os (rr_st ks os t' r) = true := by
        unfold rr_any
        rw [g3 0 (by omega) (by omega), g3 1 (by omega) (by omega), g3 2 (by omega) (by omega)]; decide
      have e1 : rr_arr sz ks os (rr_st ks os t' r) acc = rr_note acc (rr_st ks os t' r) := if_neg nn
      rw [e1] at main
      exact br_t rfl (ys_note hP hR1 hY1 hF hO (by omega) (fun fd1 hF1 => main fd1 hF1))
  · obtain rfl : t' = 3 := by omega
    have hskip : rr_from sz ks os (rr_dfs sz ks os f) r j acc = acc := rr_from_skip j 0 (by omega) (by omega) (fun s a b => h3 s (by omega) (by omega)) acc
    rw [hskip] at hroot hinn
    rcases Nat.decEq e s0 with hes | hes
    · obtain ⟨r0, p0, t0, e0, rfl, hR0, ht0, hen0, hr0, hd0, ho0, hc⟩ := hinn (by omega)
      subst hr0
      exact br_t rfl (nm_r (pk_m1 e0) (br_f (nI_nlt (by omega) (by omega)) (ys_undo hP hR0 ht0 hen0 (by omega) hY hd0 ho0 (fun va' rg' ho' pl' hY' => hc va' rg' ho' pl' dn ol _ fd n (by omega) hY' hF (fun i hi => ⟨rfl, rfl, pk_un (by omega)⟩)))))
    · exact br_t rfl (nm_e (br_t ((rr_pm e (by omega) s0 (by omega)).mpr (by omega)) (hroot hes va rg ho pl dn ol _ fd n (by omega) hY hF (fun i hi => ⟨rfl, rfl, pk_un (by omega)⟩))))
end
