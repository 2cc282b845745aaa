def rr_Tx (T : Nat → Nat) (n t : Nat) : Nat → Nat := fun i => if i = n then t else T i
section
variable {ec fx cn fy dy : Int32} {sz ks os hi et ek eo mb kb oc pa nt fo bg va rg ho pl dn ol rl sm kp tr fd : Nat → Int32}
variable {S T : Nat → Nat} {n k t : Nat} {B : Nat → Int32}
theorem rr_Tx_lt {i : Nat} (h : i < n) : rr_Tx T n t i = T i := if_neg (by omega)
theorem rr_Tx_n : rr_Tx T n t n = t := if_pos rfl
theorem rr_run_x {e : Nat} (h : e ≤ n) : rr_run ks os B (rr_Tx T n t) e = rr_run ks os B T e := rr_run_congr e (fun i hil => rr_Tx_lt (by omega))
theorem rr_run_xn : rr_run ks os B (rr_Tx T n t) (n + 1) = rr_st ks os t (rr_run ks os B T n) := by
  show rr_st ks os (rr_Tx T n t n) (rr_run ks os B (rr_Tx T n t) n) = _
  rw [rr_Tx_n, rr_run_x (Nat.le_refl n)]
theorem rr_od_x {i : Nat} (h : i < n) : rr_od ks os B (rr_Tx T n t) i = rr_od ks os B T i := by
  unfold rr_od; rw [rr_Tx_lt h, rr_run_x (by omega)]
theorem rr_od_xn : rr_od ks os B (rr_Tx T n t) n = rr_op t (rr_run ks os B T n) := by
  unfold rr_od; rw [rr_Tx_n, rr_run_x (Nat.le_refl n)]
theorem rr_Go_x (hG : rr_Go sz ks os S B T n) (ht : t < 3) (hen : rr_en sz ks os t (rr_run ks os B T n) = true) : rr_Go sz ks os S B (rr_Tx T n t) (n + 1) := by
  refine ⟨hG.1, hG.2.1, fun i hil => ?_⟩
  rcases Nat.decEq i n with z | z
  · rw [rr_Tx_lt (by omega), rr_run_x (by omega)]; exact hG.2.2 i (by omega)
  · rw [z, rr_Tx_n, rr_run_x (Nat.le_refl n)]; exact ⟨ht, hen⟩
theorem rr_P_x (bl : Bool) {b j : Nat} (hj : j < n) : rr_P (rr_E bl ks os (rr_Tx T n t) (rr_od ks os B (rr_Tx T n t))) 8 b j = rr_P (rr_E bl ks os T (rr_od ks os B T)) 8 b j :=
  rr_P_congr (rr_E_congr (fun i hil => rr_Tx_lt hil) (fun i hil => rr_od_x hil)) 8 b j hj
end
theorem i_vc_step {k : Nat} {u : SX} {v : SY} (I : i_Rel k u v) (hk : k + 4 ≤ 2048) (v1 : Int32) : wpX_step (fun r u' => wpY_step (fun r' v' => r' = r ∧ i_Rel (k + 4) u' v') v v1) u v1 := by
  obtain ⟨S, T, n, B, fx, fy, dy, sz, ks, os, hi, et, ek, eo, mb, kb, oc, pa, nt, fo, bg, va, rg, ho, pl, dn, ol, rl, sm, kp, tr, fd, rfl, rfl, hG, hX, hY⟩ := I
  unfold wpX_step wpY_step
  have same : ∀ x : Int32, x = x ∧ i_Rel (k + 4) (nI n, fx, sz, ks, os, hi, et, ek, eo, mb, kb, oc, pa, nt, fo) (nI n, fy, dy, ks, os, sz, bg, va, rg, ho, pl, dn, ol, rl, sm, kp, tr, fd) := fun x => ⟨rfl, rr_mk hG hX hY⟩
  have n8 := rr_Go_8 hG (Nat.le_refl n)
  rcases rr_arg3 v1 with h | ⟨t, ht, rfl⟩
  · exact xs_thd_f h (br_t rfl (ys_in_f (b := 2) (by omega) h (br_t rfl (same _))))
  · have hR := (rr_Go_Rk hG n (Nat.le_refl n)).1
    have hr := hX.1 n (Nat.le_refl n)
    refine xs_thd_t ht (br_f (by decide) (xs_can_history hG.1 hR n8 ht hr (rr_bd (fun z => ?_) (fun hen => ?_))))
    · exact ys_in_t (b := 2) (by omega) (by omega) (br_f (by decide) (ys_en hG.1 hR ht hY.2.1 (rr_bf z (same _))))
    · have n7 := rr_Go_lt hG ht hen
      have cn' : (nI n).toNatClampNeg = n := nI_clamp (by omega)
      have vn : vp_in (nI n) 8 := pk_in n 8 n7 rfl
      have hl := rr_en_lt hen
      have ho12 := rr_op12 hG.1 hR ht hl
      have co : (nI (rr_op t (rr_run ks os B T n))).toNatClampNeg = rr_op t (rr_run ks os B T n) := nI_clamp (by omega)
      have vo : vp_in (nI (rr_op t (rr_run ks os B T n))) 12 := pk_in _ _ ho12 rfl
      have hG' := rr_Go_x hG ht hen
      have hE' := rr_Ev_of hG'
      refine xs_nop_history hG.1 hR n8 ht hr (xs_take_history hG.1 hR n7 ht hr hl (fun a ha hfr => ?_))
      refine ⟨vn, nm_r (show _ = upd et n (nI t) by rw [cn']) ⟨vo, vn, nm_r (show _ = upd ek n (ks (rr_op t (rr_run ks os B T n))) by rw [cn', co]) ⟨vo, vn, nm_r (show _ = upd eo n (os (rr_op t (rr_run ks os B T n))) by rw [cn', co]) ?_⟩⟩⟩
      have hX' : rr_Xe (n + 1) ks os (rr_Tx T n t) (rr_od ks os B (rr_Tx T n t)) (upd et n (nI t)) (upd ek n (ks (rr_op t (rr_run ks os B T n)))) (upd eo n (os (rr_op t (rr_run ks os B T n)))) := by
        intro i hil
        rcases Nat.decEq i n with z | z
        · rw [pk_un z, pk_un z, pk_un z, rr_Tx_lt (by omega), rr_od_x (by omega)]; exact hX.2.1 i (by omega)
        · rw [z, pk_us, pk_us, pk_us, rr_Tx_n, rr_od_xn]; exact ⟨rfl, rfl, rfl⟩
      refine xs_bef_Must false rfl hE' hX' (Nat.lt_succ_self n) (fun j hj b hb => by rw [rr_P_x false hj]; exact hX.2.2.1 j hj b hb) (fun v hv => ⟨vn, nm_r (show _ = upd mb n v by rw [cn']) ?_⟩)
      refine xs_bef_Known true rfl hE' hX' (Nat.lt_succ_self n) (fun j hj b hb => by rw [rr_P_x true hj]; exact hX.2.2.2 j hj b hb) (fun w hw => ⟨vn, nm_r (show _ = upd kb n w by rw [cn']) (nm_r (nI_1 n) ?_)⟩)
      refine ys_in_t (b := 2) (by omega) (by omega) (br_f (by decide) (ys_en hG.1 hR ht hY.2.1 (rr_bt hen (ys_go hG.1 hR ht hen n7 hY.2.1 (fun va1 rg1 ho1 pl1 dn1 ol1 hY1 hd1 ho1' hfr1 => ⟨nI_pred n, ?_⟩)))))
      refine rr_mk hG' ⟨fun e he c hc => ?_, hX', fun j hj b hb => ?_, fun j hj b hb => ?_⟩ ⟨hY.1, by rw [rr_run_xn]; exact hY1, fun i hil => ?_⟩
      · rcases Nat.decEq e (n + 1) with z | z
        · rw [hfr _ (by omega), rr_run_x (by omega)]; exact hX.1 e (by omega) c hc
        · rw [z, rr_run_xn]; exact ha c hc
      · rcases Nat.decEq j n with z | z
        · rw [pk_un z, rr_P_x false (by omega)]; exact hX.2.2.1 j (by omega) b hb
        · rw [z, pk_us]; exact hv b hb
      · rcases Nat.decEq j n with z | z
        · rw [pk_un z, rr_P_x true (by omega)]; exact hX.2.2.2 j (by omega) b hb
        · rw [z, pk_us]; exact hw b hb
      · rcases Nat.decEq i n with z | z
        · rw [rr_Tx_lt (by omega), rr_run_x (by omega), (hfr1 i z).1, (hfr1 i z).2]; exact hY.2.2 i (by omega)
        · rw [z, rr_Tx_n, rr_run_x (Nat.le_refl n)]; exact ⟨hd1, ho1'⟩
theorem i_vc_back {k : Nat} {u : SX} {v : SY} (I : i_Rel k u v) (hk : k + 4 ≤ 2048) : wpX_back (fun r u' => wpY_back (fun r' v' => r' = r ∧ i_Rel (k + 4) u' v') v) u := by
  obtain ⟨S, T, n, B, fx, fy, dy, sz, ks, os, hi, et, ek, eo, mb, kb, oc, pa, nt, fo, bg, va, rg, ho, pl, dn, ol, rl, sm, kp, tr, fd, rfl, rfl, hG, hX, hY⟩ := I
  have n8 := rr_Go_8 hG (Nat.le_refl n)
  cases n with
  | zero => exact br_t rfl (br_t rfl ⟨rfl, rr_mk hG hX hY⟩)
  | succ n =>
    have nz : ¬ nI (n + 1) = 0 := nI_ne0 (by omega) (by omega)
    obtain ⟨ht, hen⟩ := hG.2.2 n (by omega)
    have hR := (rr_Go_Rk hG n (by omega)).1
    obtain ⟨hd, hol⟩ := hY.2.2 n (by omega)
    refine br_f nz (nm_r (nI_pred n) ⟨pk_in n 8 (by omega) rfl, br_f nz (ys_undo hG.1 hR ht hen (by omega) hY.2.1 hd hol (fun va' rg' ho' pl' hY' => ⟨?_, ?_⟩))⟩)
    · rw [nI_clamp (by omega)]; exact (hX.2.1 n (by omega)).1.symm
    · exact rr_mk (rr_Go_mono hG (by omega)) ⟨fun e he => hX.1 e (by omega), fun i hil => hX.2.1 i (by omega), fun j hj => hX.2.2.1 j (by omega), fun j hj => hX.2.2.2 j (by omega)⟩ ⟨hY.1, hY', fun i hil => hY.2.2 i (by omega)⟩
theorem i_vc_again {k : Nat} {u : SX} {v : SY} (I : i_Rel k u v) (hk : k + 4 ≤ 2048) : wpX_again (fun u' => wpY_again (fun v' => i_Rel (k + 4) u' v') v) u := by
  obtain ⟨S, T, n, B, fx, fy, dy, sz, ks, os, hi, et, ek, eo, mb, kb, oc, pa, nt, fo, bg, va, rg, ho, pl, dn, ol, rl, sm, kp, tr, fd, rfl, rfl, hG, hX, hY⟩ := I
  refine ys_again (cn := nI n) (fun va' rg' ho' pl' h1 h2 => ?_)
  refine rr_mk (n := 0) (rr_Go_mono hG (Nat.zero_le n)) (rr_Rx0 (rr_Rx0' hX)) ⟨hY.1, ⟨fun w hw => (h1 w hw).1.trans (hY.1 w hw), fun s hs => ⟨(h2 s hs).1.trans (hG.2.1.1 s hs).1.symm, (h2 s hs).2.trans (hG.2.1.1 s hs).2.symm⟩, fun m hm => ?_⟩, fun i hil => by omega⟩
  show ho' m = rr_hm (B (8 + m))
  rw [hG.2.1.2 m hm, rr_hm0]; exact (h1 m hm).2
theorem i_vc_events {k : Nat} {u : SX} {v : SY} (I : i_Rel k u v) (hk : k + 4 ≤ 2048) : wpX_events (fun r => wpY_events (fun r' => r' = r ∧ i_Rel (k + 4) u v) v) u := by
  obtain ⟨S, T, n, B, fx, fy, dy, sz, ks, os, hi, et, ek, eo, mb, kb, oc, pa, nt, fo, bg, va, rg, ho, pl, dn, ol, rl, sm, kp, tr, fd, rfl, rfl, hG, hX, hY⟩ := I
  exact ⟨rfl, rr_mk hG hX hY⟩
theorem i_vc_thread {k : Nat} {u : SX} {v : SY} (I : i_Rel k u v) (hk : k + 4 ≤ 2048) (v1 : Int32) : wpX_thread (fun r => wpY_thread (fun r' => r' = r ∧ i_Rel (k + 4) u v) v v1) u v1 := by
  obtain ⟨S, T, n, B, fx, fy, dy, sz, ks, os, hi, et, ek, eo, mb, kb, oc, pa, nt, fo, bg, va, rg, ho, pl, dn, ol, rl, sm, kp, tr, fd, rfl, rfl, hG, hX, hY⟩ := I
  unfold wpX_thread
  have same : i_Rel (k + 4) (nI n, fx, sz, ks, os, hi, et, ek, eo, mb, kb, oc, pa, nt, fo) (nI n, fy, dy, ks, os, sz, bg, va, rg, ho, pl, dn, ol, rl, sm, kp, tr, fd) := rr_mk hG hX hY
  have n8 := rr_Go_8 hG (Nat.le_refl n)
  rcases pk_ix v1 (n := n) (by omega) with h | h | ⟨i, hil, rfl⟩
  · exact br_t h (br_t rfl (br_t h ⟨rfl, same⟩))
  · by_cases z : v1 < 0
    · exact br_t z (br_t rfl (br_t z ⟨rfl, same⟩))
    · exact br_f z (br_t h (br_t rfl (br_f z (br_t h ⟨rfl, same⟩))))
  · have z : ¬ nI i < 0 := nI_pos (by omega)
    have y : ¬ nI n ≤ nI i := nI_ge hil (by omega)
    have vi : vp_in (nI i) 8 := pk_in i 8 (by omega) rfl
    have d := (ys_div (rr_Ev_of hG) (rr_Ye_of hY) hil).1
    refine br_f z (br_f y (br_f (by decide) ⟨vi, br_f z (br_f y ⟨vi, by decide, ?_, same⟩)⟩))
    rw [d, nI_clamp (by omega), (hX.2.1 i hil).1]
section
variable {cn fy dy : Int32} {ks os sz bg va rg ho pl dn ol rl sm kp tr fd : Nat → Int32}
variable {S p : Nat → Nat} {r : Nat → Int32} {t : Nat}
theorem ys_en1 (hP : rr_Pg sz ks os S) (hR : rr_Rk S r p) (hY : rr_Yr r va rg ho pl) (ht : t < 3) {post : Int32 → Prop} {n : Nat} {x : Int32} (h : wY_enabled_4 post cn fy dy ks os sz bg va rg ho pl dn ol rl sm kp tr fd n (rr_m1 sz ks os r t x) (nI (t + 1))) : wY_enabled_4 post cn fy dy ks os sz bg va rg ho pl dn ol rl sm kp tr fd (n + 1) x (nI t) := by
  refine br_f (rr_lt3 ht) (ys_en hP hR ht hY ?_)
  unfold rr_m1 at h
  refine rr_bd (fun z => ?_) (fun z => ?_)
  · rw [z] at h; exact nm_r (nI_1 t) h
  · rw [z] at h; exact nm_e (nm_r (nI_1 t) h)
theorem ys_enabled (hP : rr_Pg sz ks os S) (hR : rr_Rk S r p) (hY : rr_Yr r va rg ho pl) {post : Int32 → Prop} (h : post (rr_msk sz ks os r)) : wpY_enabled post (cn, fy, dy, ks, os, sz, bg, va, rg, ho, pl, dn, ol, rl, sm, kp, tr, fd) :=
  ⟨4, ys_en1 (t := 0) hP hR hY (by omega) (ys_en1 (t := 1) hP hR hY (by omega) (ys_en1 (t := 2) hP hR hY (by omega) (br_t (by decide) h)))⟩
end
theorem i_vc_enabled {k : Nat} {u : SX} {v : SY} (I : i_Rel k u v) (hk : k + 4 ≤ 2048) : wpX_enabled (fun r => wpY_enabled (fun r' => r' = r ∧ i_Rel (k + 4) u v) v) u := by
  obtain ⟨S, T, n, B, fx, fy, dy, sz, ks, os, hi, et, ek, eo, mb, kb, oc, pa, nt, fo, bg, va, rg, ho, pl, dn, ol, rl, sm, kp, tr, fd, rfl, rfl, hG, hX, hY⟩ := I
  unfold wpX_enabled
  have n8 := rr_Go_8 hG (Nat.le_refl n)
  have hR := (rr_Go_Rk hG n (Nat.le_refl n)).1
  exact xs_thr_history hG.1 hR n8 (hX.1 n (Nat.le_refl n)) (ys_enabled hG.1 hR hY.2.1 ⟨rfl, rr_mk hG hX hY⟩)
theorem i_vc_value {k : Nat} {u : SX} {v : SY} (I : i_Rel k u v) (hk : k + 4 ≤ 2048) (v1 : Int32) : wpX_value (fun r => wpY_value (fun r' => r' = r ∧ i_Rel (k + 4) u v) v v1) u v1 := by
  obtain ⟨S, T, n, B, fx, fy, dy, sz, ks, os, hi, et, ek, eo, mb, kb, oc, pa, nt, fo, bg, va, rg, ho, pl, dn, ol, rl, sm, kp, tr, fd, rfl, rfl, hG, hX, hY⟩ := I
  unfold wpX_value wpY_value
  have same : i_Rel (k + 4) (nI n, fx, sz, ks, os, hi, et, ek, eo, mb, kb, oc, pa, nt, fo) (nI n, fy, dy, ks, os, sz, bg, va, rg, ho, pl, dn, ol, rl, sm, kp, tr, fd) := rr_mk hG hX hY
  have n8 := rr_Go_8 hG (Nat.le_refl n)
  rcases rr_arg2 v1 with h | ⟨t, ht, rfl⟩
  · exact xs_var_f h (br_t rfl (ys_in_f (b := 1) (by omega) h (br_t rfl ⟨rfl, same⟩)))
  · have e1 := rr_ix0 n t
    refine xs_var_t ht (br_f (by decide) ⟨pk_in _ _ (by omega) e1, ys_in_t (b := 1) (by omega) (by omega) (br_f (by decide) ⟨pk_in t 2 ht rfl, ?_, same⟩)⟩)
    rw [e1, nI_clamp (by omega), nI_clamp (by omega), hX.1 n (Nat.le_refl n) t (by omega)]; exact hY.2.1.1 t ht
theorem i_vc_register {k : Nat} {u : SX} {v : SY} (I : i_Rel k u v) (hk : k + 4 ≤ 2048) (v1 : Int32) : wpX_register (fun r => wpY_register (fun r' => r' = r ∧ i_Rel (k + 4) u v) v v1) u v1 := by
  obtain ⟨S, T, n, B, fx, fy, dy, sz, ks, os, hi, et, ek, eo, mb, kb, oc, pa, nt, fo, bg, va, rg, ho, pl, dn, ol, rl, sm, kp, tr, fd, rfl, rfl, hG, hX, hY⟩ := I
  unfold wpX_register wpY_register
  have same : i_Rel (k + 4) (nI n, fx, sz, ks, os, hi, et, ek, eo, mb, kb, oc, pa, nt, fo) (nI n, fy, dy, ks, os, sz, bg, va, rg, ho, pl, dn, ol, rl, sm, kp, tr, fd) := rr_mk hG hX hY
  have n8 := rr_Go_8 hG (Nat.le_refl n)
  rcases rr_arg3 v1 with h | ⟨t, ht, rfl⟩
  · exact xs_thd_f h (br_t rfl (ys_in_f (b := 2) (by omega) h (br_t rfl ⟨rfl, same⟩)))
  · have e1 := rr_ix2 n t
    refine xs_thd_t ht (br_f (by decide) ⟨pk_in _ _ (by omega) e1, ys_in_t (b := 2) (by omega) (by omega) (br_f (by decide) ⟨pk_in t 3 ht rfl, ?_, same⟩)⟩)
    rw [e1, nI_clamp (by omega), nI_clamp (by omega), hX.1 n (Nat.le_refl n) (2 + t) (by omega)]; exact (hY.2.1.2.1 t ht).1
theorem i_vc_holder {k : Nat} {u : SX} {v : SY} (I : i_Rel k u v) (hk : k + 4 ≤ 2048) (v1 : Int32) : wpX_holder (fun r => wpY_holder (fun r' => r' = r ∧ i_Rel (k + 4) u v) v v1) u v1 := by
  obtain ⟨S, T, n, B, fx, fy, dy, sz, ks, os, hi, et, ek, eo, mb, kb, oc, pa, nt, fo, bg, va, rg, ho, pl, dn, ol, rl, sm, kp, tr, fd, rfl, rfl, hG, hX, hY⟩ := I
  unfold wpX_holder wpY_holder
  have same : i_Rel (k + 4) (nI n, fx, sz, ks, os, hi, et, ek, eo, mb, kb, oc, pa, nt, fo) (nI n, fy, dy, ks, os, sz, bg, va, rg, ho, pl, dn, ol, rl, sm, kp, tr, fd) := rr_mk hG hX hY
  have n8 := rr_Go_8 hG (Nat.le_refl n)
  rcases rr_arg2 v1 with h | ⟨t, ht, rfl⟩
  · exact xs_lok_f h (br_t rfl (ys_in_f (b := 1) (by omega) h (br_t rfl ⟨rfl, same⟩)))
  · have e1 := rr_ix8 n t
    have vt : vp_in (nI t) 2 := pk_in t 2 ht rfl
    have ct : (nI t).toNatClampNeg = t := nI_clamp (by omega)
    refine xs_lok_t ht (br_f (by decide) ⟨pk_in _ _ (by omega) e1, ys_in_t (b := 1) (by omega) (by omega) (br_f (by decide) ⟨vt, ?_⟩)⟩)
    have ch : hi (nI n * 10 + 8 + nI t).toNatClampNeg = rr_run ks os B T n (8 + t) := by rw [e1, nI_clamp (by omega)]; exact hX.1 n (Nat.le_refl n) (8 + t) (by omega)
    rw [ch, ct, hY.2.1.2.2 t ht]
    rcases (rr_Go_Rk hG n (Nat.le_refl n)).1.2 t ht with z | ⟨s, hs, z⟩
    · rw [z, rr_hm0]; exact br_f (by decide) ⟨rfl, same⟩
    · rw [z, rr_hmt hs]; exact br_t (nI_pos' (by omega)) ⟨vt, rfl, same⟩
