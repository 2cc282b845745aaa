theorem rr_any_0 {sz ks os r : Nat → Int32} (h : ∀ s, 0 ≤ s → s < 3 → rr_en sz ks os s r = false) : rr_any sz ks os r = false := by
  unfold rr_any
  rw [h 0 (by omega) (by omega), h 1 (by omega) (by omega), h 2 (by omega) (by omega)]; rfl
theorem rr_root {sz ks os r : Nat → Int32} {S p : Nat → Nat} (hP : rr_Pg sz ks os S) (hR : rr_Rk S r p) : rr_rm S p 0 + rr_rm S p 1 + rr_rm S p 2 ≤ 8 ∧ rr_LV 9 (rr_rm S p) ≤ 560 ∧ rr_ND 9 (rr_rm S p) ≤ 5040 := by
  have a0 := rr_S4 hP (show 0 < 3 by omega)
  have a1 := rr_S4 hP (show 1 < 3 by omega)
  have a2 := rr_S4 hP (show 2 < 3 by omega)
  have h := hP.2.1
  have b0 : rr_rm S p 0 = S 0 - p 0 := rfl
  have b1 : rr_rm S p 1 = S 1 - p 1 := rfl
  have b2 : rr_rm S p 2 = S 2 - p 2 := rfl
  exact ⟨by omega, rr_lv_560 _ (by omega) _ (by omega) _ (by omega) (by omega), rr_nd_5040 _ (by omega) _ (by omega) _ (by omega) (by omega)⟩
section
variable {cn fy dy : Int32} {ks os sz bg va rg ho pl dn ol rl sm kp tr fd : Nat → Int32}
variable {S p : Nat → Nat} {r : Nat → Int32} {e : Nat}
theorem ys_through (hP : rr_Pg sz ks os S) (hR : rr_Rk S r p) (hpe : p 0 + p 1 + p 2 = e) (hY : rr_Yr r va rg ho pl) {post : SY → Prop}
    (H : ∀ va' rg' ho' pl' dn' ol' tr' fd', rr_Yr r va' rg' ho' pl' → rr_Fy sz (rr_dfs sz ks os 9 r []) fd' → (∀ i, i < e → dn' i = dn i ∧ ol' i = ol i) →
      post (nI e, nI (rr_dfs sz ks os 9 r []).length, nI (rr_dd sz (rr_dfs sz ks os 9 r [])), ks, os, sz, bg, va', rg', ho', pl', dn', ol', rl, sm, kp, tr', fd')) : wpY_goThrough post (nI e, fy, dy, ks, os, sz, bg, va, rg, ho, pl, dn, ol, rl, sm, kp, tr, fd) := by
  obtain ⟨hrm, hLV, hND⟩ := rr_root hP hR
  have he8 : e ≤ 8 := by
    have h0 := (hR.1 0 (by omega)).2
    have h1 := (hR.1 1 (by omega)).2
    have h2 := (hR.1 2 (by omega)).2
    have := hP.2.1
    omega
  have F0 : rr_Fy sz [] fd := fun k o h => by cases h
  have O0 : rr_Fo S [] := fun o h => by cases h
  refine ⟨pk_in e 9 (by omega) rfl, nm_r (show _ = upd tr e (-1) by rw [nI_clamp (by omega)]) (ys_next hP hR hY (show (-1 : Int32) + 1 = nI 0 from rfl) (by omega) (fun t2 g1 g2 g3 g4 => ?_))⟩
  have hroom := rr_room hP hR (f := 8) (acc := []) (by simpa using hLV)
  rcases Nat.lt_or_ge t2 3 with q | q
  · have e1 : rr_arr sz ks os r [] = [] := if_pos (rr_any_t q (g4 q))
    have e2 : rr_dfs sz ks os 9 r [] = rr_from sz ks os (rr_dfs sz ks os 8) r 3 [] := by
      show rr_from sz ks os (rr_dfs sz ks os 8) r 3 (rr_arr sz ks os r []) = _
      rw [e1]
    rw [e2] at H
    rw [e1] at hroom
    refine br_f (rr_t3 t2 q) ⟨1 + 1 + 2 * rr_ns 8 (rr_rm S p) 3, ?_⟩
    refine yg_node hP 8 r p e hR hrm hpe (Nat.le_refl e) 1 3 0 rfl [] va rg ho pl dn ol (upd tr e (-1)) fd _ hY F0 O0 hroom.2 (by rw [pk_us]; rfl) (fun _ => ?_) (fun z => by omega) (Nat.le_refl _)
    intro va' rg' ho' pl' dn' ol' tr' fd' n' hn' hY' hF' hfr
    obtain ⟨n', rfl⟩ : ∃ m, n' = m + 1 := ⟨n' - 1, by omega⟩
    exact br_t ((rr_pm e (by omega) e (by omega)).mpr (Nat.le_refl e)) (H va' rg' ho' pl' dn' ol' tr' fd' hY' hF' (fun i hi => ⟨(hfr i hi).1, (hfr i hi).2.1⟩))
  · obtain rfl : t2 = 3 := by omega
    have hna := rr_any_0 g3
    have e1 : rr_arr sz ks os r [] = rr_note [] r := if_neg (by rw [hna]; decide)
    have e2 : rr_dfs sz ks os 9 r [] = rr_note [] r := by
      show rr_from sz ks os (rr_dfs sz ks os 8) r 3 (rr_arr sz ks os r []) = _
      rw [e1, rr_from_f hna 3 (by omega)]
    rw [e2] at H
    exact br_t rfl (ys_note (acc := []) hP hR hY F0 O0 (by simp) (fun fd1 hF1 => H va rg ho pl dn ol _ fd1 hY hF1 (fun i hi => ⟨rfl, rfl⟩)))
end
section
variable {bg ks os sz rl sm B : Nat → Int32} {S T : Nat → Nat} {n : Nat}
theorem ys_replay (hG : rr_Go sz ks os S B T n) {post : SY → Prop} {fy dy : Int32} {kp tr fd : Nat → Int32} (hk : ∀ i, i < n → kp i = nI (T i))
    (H : ∀ va rg ho pl dn ol, rr_Yr (rr_run ks os B T n) va rg ho pl → (∀ i, i < n → dn i = nI (rr_op (T i) (rr_run ks os B T i)) ∧ rr_Ol ks os (T i) (rr_run ks os B T i) (ol i)) → post (nI n, fy, dy, ks, os, sz, bg, va, rg, ho, pl, dn, ol, rl, sm, kp, tr, fd)) :
    ∀ j i, i + j = n → ∀ va rg ho pl dn ol, rr_Yr (rr_run ks os B T i) va rg ho pl → (∀ a, a < i → dn a = nI (rr_op (T a) (rr_run ks os B T a)) ∧ rr_Ol ks os (T a) (rr_run ks os B T a) (ol a)) → wY_goThroughAll_36 post (nI n) (j + 1) (nI i) (nI i) fy dy ks os sz bg va rg ho pl dn ol rl sm kp tr fd := by
  have n8 : n ≤ 8 := rr_Go_8 hG (Nat.le_refl n)
  intro j
  induction j with
  | zero =>
    intro i hi va rg ho pl dn ol hY hd
    obtain rfl : i = n := by omega
    exact br_t (nI_le (Nat.le_refl _) (by omega)) (H va rg ho pl dn ol hY hd)
  | succ j ih =>
    intro i hi va rg ho pl dn ol hY hd
    obtain ⟨ht, hen⟩ := hG.2.2 i (by omega)
    have hR := (rr_Go_Rk hG i (by omega)).1
    refine br_f (nI_ge (by omega) (by omega)) ⟨pk_in i 8 (by omega) rfl, ?_⟩
    rw [nI_clamp (by omega), hk i (by omega)]
    refine ys_go hG.1 hR ht hen (by omega) hY (fun va1 rg1 ho1 pl1 dn1 ol1 hY1 hd1 ho1' hfr => nm_r (nI_1 i) (ih (i + 1) (by omega) va1 rg1 ho1 pl1 dn1 ol1 hY1 (fun a ha => ?_)))
    rcases Nat.decEq a i with z | z
    · rw [(hfr a z).1, (hfr a z).2]; exact hd a (by omega)
    · rw [z]; exact ⟨hd1, ho1'⟩
theorem ys_all (hG : rr_Go sz ks os S B T n) {post : SY → Prop} {fy dy : Int32} {va rg ho pl dn ol kp tr fd : Nat → Int32}
    (hY : rr_Yr (rr_run ks os B T n) va rg ho pl) (hd : ∀ i, i < n → dn i = nI (rr_op (T i) (rr_run ks os B T i)) ∧ rr_Ol ks os (T i) (rr_run ks os B T i) (ol i))
    (H : ∀ va rg ho pl dn ol kp tr fd, rr_Yr (rr_run ks os B T n) va rg ho pl → (∀ i, i < n → dn i = nI (rr_op (T i) (rr_run ks os B T i)) ∧ rr_Ol ks os (T i) (rr_run ks os B T i) (ol i)) → rr_Fy sz (rr_dfs sz ks os 9 B []) fd →
      post (nI n, nI (rr_dfs sz ks os 9 B []).length, nI (rr_dd sz (rr_dfs sz ks os 9 B [])), ks, os, sz, bg, va, rg, ho, pl, dn, ol, rl, sm, kp, tr, fd)) : wpY_goThroughAll post (nI n, fy, dy, ks, os, sz, bg, va, rg, ho, pl, dn, ol, rl, sm, kp, tr, fd) := by
  have n8 : n ≤ 8 := rr_Go_8 hG (Nat.le_refl n)
  have key : ∀ e, e ≤ n → ∀ va rg ho pl kp, rr_Yr (rr_run ks os B T e) va rg ho pl → (∀ i, e ≤ i → i < n → kp i = nI (T i)) → wY_goThroughAll_5 post (nI n) (e + 1) (nI e) fy dy ks os sz bg va rg ho pl dn ol rl sm kp tr fd := by
    intro e
    induction e with
    | zero =>
      intro _ va rg ho pl kp hY hk
      have hR := (rr_Go_Rk hG 0 (by omega))
      refine br_t (show nI 0 ≤ 0 by decide) (ys_through hG.1 hR.1 hR.2 hY (fun va' rg' ho' pl' dn' ol' tr' fd' hY' hF' _ => ⟨n + 1, ?_⟩))
      exact ys_replay hG (fun i hi => hk i (by omega) hi) (fun va rg ho pl dn ol hY2 hd2 => H va rg ho pl dn ol kp tr' fd' hY2 hd2 hF') n 0 (by omega) va' rg' ho' pl' dn' ol' hY' (fun a ha => by omega)
    | succ e ih =>
      intro he va rg ho pl kp hY hk
      obtain ⟨ht, hen⟩ := hG.2.2 e (by omega)
      have hR := (rr_Go_Rk hG e (by omega)).1
      refine br_f (nI_nle (by omega) (by omega)) (ys_undo hG.1 hR ht hen (by omega) hY (hd e (by omega)).1 (hd e (by omega)).2 (fun va' rg' ho' pl' hY' => ⟨pk_in e 8 (by omega) rfl, nm_r (show _ = upd kp e (nI (T e)) by rw [nI_clamp (by omega)]) (ih (by omega) va' rg' ho' pl' _ hY' (fun i h1 h2 => ?_))⟩))
      rcases Nat.decEq i e with z | z
      · rw [pk_un z]; exact hk i (by omega) h2
      · rw [z, pk_us]
  exact ⟨n + 1, key n (Nat.le_refl n) va rg ho pl kp hY (fun i h1 h2 => by omega)⟩
end
