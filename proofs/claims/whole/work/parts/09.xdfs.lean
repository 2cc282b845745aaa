theorem rr_ix08 (k c : Nat) : nI k * 8 + nI c = nI (8 * k + c) := by
  rw [show (8 : Int32) = nI 8 from rfl, pk_mul, nI_add, Nat.mul_comm]
section
variable {ec fx : Int32} {sz ks os hi et ek eo mb kb oc pa nt fo : Nat → Int32}
variable {S p : Nat → Nat} {r o : Nat → Int32} {acc : List (Nat → Int32)} {k d : Nat}
theorem xs_same (hk : k < 560) (hd : d ≤ 8) (hr : ∀ c, c < 10 → pa (10 * d + c) = r c) (hf : ∀ c, c < 8 → fo (8 * k + c) = o c) {post : Int32 → Prop} (h : post (rr_b (rr_same o r))) : wpX_isSameOutcome post (ec, fx, sz, ks, os, hi, et, ek, eo, mb, kb, oc, pa, nt, fo) (nI k) (nI d) := by
  have key : ∀ j i, i + j = 8 → ((∀ c, i ≤ c → c < 8 → o c = r c) → post 1) → (¬ (∀ c, i ≤ c → c < 8 → o c = r c) → post 0) → wX_isSameOutcome_2 post (nI k) (nI d) ec fx sz ks os hi et ek eo mb kb oc pa nt fo (j + 1) (nI i) := by
    intro j
    induction j with
    | zero =>
      intro i hi h1 h2
      obtain rfl : i = 8 := by omega
      exact br_t (show (8 : Int32) ≤ nI 8 by decide) (h1 (fun c a b => by omega))
    | succ j ih =>
      intro i hi h1 h2
      have e1 := rr_ix08 k i
      have e2 := rr_ix0 d i
      refine br_f (nI_ge (b := 8) (by omega) (by decide)) ⟨pk_in _ _ (by omega) e1, pk_in _ _ (by omega) e2, ?_⟩
      rw [e1, e2, nI_clamp (by omega), nI_clamp (by omega), hf i (by omega), hr i (by omega)]
      by_cases q : o i = r i
      · refine br_t q (nm_r (nI_1 i) (ih (i + 1) (by omega) (fun y => h1 (fun c a b => ?_)) (fun y => h2 (fun w => y (fun c a b => w c (by omega) b)))))
        rcases Nat.decEq c i with v | v
        · exact y c (by omega) b
        · rw [v]; exact q
      · exact br_f q (h2 (fun w => q (w i (by omega) (by omega))))
  refine ⟨9, key 8 0 (by omega) (fun y => ?_) (fun y => ?_)⟩
  · rw [rr_same_t.mpr (fun c hc => y c (by omega) hc)] at h; exact h
  · have : rr_same o r = false := by
      rcases z : rr_same o r with _ | _
      · rfl
      · exact absurd (fun c _ hc => rr_same_t.mp z c hc) y
    rw [this] at h; exact h
theorem xs_isFound (hn : acc.length ≤ 560) (hd : d ≤ 8) (hr : ∀ c, c < 10 → pa (10 * d + c) = r c) (hF : rr_Fx acc fo) {post : Int32 → Prop} (h : post (rr_b (acc.any (fun o => rr_same o r)))) : wpX_isFound post (ec, nI acc.length, sz, ks, os, hi, et, ek, eo, mb, kb, oc, pa, nt, fo) (nI d) := by
  have key : ∀ j k, k + j = acc.length → (∀ i o, i < k → acc[i]? = some o → ¬ rr_same o r = true) → wX_isFound_2 post (nI d) ec (nI acc.length) sz ks os hi et ek eo mb kb oc pa nt fo (j + 1) (nI k) := by
    intro j
    induction j with
    | zero =>
      intro k hk hs
      obtain rfl : k = acc.length := by omega
      have hf : acc.any (fun o => rr_same o r) = false := by
        rcases z : acc.any (fun o => rr_same o r) with _ | _
        · rfl
        · obtain ⟨o, ho, h⟩ := List.any_eq_true.mp z
          obtain ⟨i, hi, e⟩ := List.getElem_of_mem ho
          exact absurd h (hs i o hi (by rw [List.getElem?_eq_getElem hi, e]))
      rw [hf] at h
      exact br_t (nI_le (Nat.le_refl _) (by omega)) h
    | succ j ih =>
      intro k hk hs
      have hkl : k < acc.length := by omega
      obtain ⟨o, ho⟩ : ∃ o, acc[k]? = some o := ⟨_, List.getElem?_eq_getElem hkl⟩
      refine br_f (nI_ge hkl (by omega)) (xs_same (by omega) hd hr (hF k o ho) (rr_bd (fun z => nm_r (nI_1 k) (ih (k + 1) (by omega) (fun i o' hi ho' => ?_))) (fun z => ?_)))
      · rcases Nat.decEq i k with y | y
        · exact hs i o' (by omega) ho'
        · rw [y, ho] at ho'
          rw [← Option.some.inj ho', z]; decide
      · have ha : acc.any (fun o => rr_same o r) = true := List.any_eq_true.mpr ⟨o, List.mem_of_getElem? ho, z⟩
        rw [ha] at h; exact h
  exact ⟨acc.length + 1, key acc.length 0 (by omega) (fun i o hi => by omega)⟩
theorem xs_keep (hn : acc.length < 560) (hd : d ≤ 8) (hr : ∀ c, c < 10 → pa (10 * d + c) = r c) (hF : rr_Fx acc fo) {post : SX → Prop}
    (H : ∀ fo', rr_Fx (acc ++ [r]) fo' → post (ec, nI (acc ++ [r]).length, sz, ks, os, hi, et, ek, eo, mb, kb, oc, pa, nt, fo')) : wpX_keepOutcome post (ec, nI acc.length, sz, ks, os, hi, et, ek, eo, mb, kb, oc, pa, nt, fo) (nI d) := by
  refine loop_0 (fun n i a => wX_keepOutcome_2 post (nI d) ec (nI acc.length) n (nI i) sz ks os hi et ek eo mb kb oc pa nt a) (fun i a => (∀ c, c < i → a (8 * acc.length + c) = r c) ∧ ∀ j, j < 8 * acc.length → a j = fo j) 8 fo ⟨fun c hc => by omega, fun j _ => rfl⟩ ?_ ?_
  · intro n a ⟨h1, h2⟩
    have hF' : rr_Fx (acc ++ [r]) a := by
      intro k o ho c hc
      rcases rr_app ho with ⟨z, y⟩ | ⟨z, y⟩
      · rw [h2 _ (by omega)]; exact hF k o y c hc
      · rw [z, y]; exact h1 c hc
    have hl : (acc ++ [r]).length = acc.length + 1 := by simp
    have := H a hF'
    rw [hl] at this
    exact br_t (show (8 : Int32) ≤ nI 8 by decide) (nm_r (nI_1 acc.length) this)
  · intro n i a hil ⟨h1, h2⟩ ih
    have e1 := rr_ix08 acc.length i
    have e2 := rr_ix0 d i
    refine br_f (nI_ge (b := 8) hil (by decide)) ⟨pk_in _ _ (by omega) e2, pk_in _ _ (by omega) e1, nm_r (show _ = upd a (8 * acc.length + i) (r i) by rw [e1, e2, nI_clamp (by omega), nI_clamp (by omega), hr i (by omega)]) (nm_r (nI_1 i) (ih _ ⟨fun c hc => ?_, fun j hj => ?_⟩))⟩
    · rcases Nat.decEq c i with z | z
      · rw [pk_un (by omega)]; exact h1 c (by omega)
      · rw [z, pk_us]
    · rw [pk_un (by omega)]; exact h2 j hj
theorem xs_arr (hP : rr_Pg sz ks os S) (hR : rr_Rk S r p) (hn : acc.length < 560) (hd : d ≤ 8) (hr : ∀ c, c < 10 → pa (10 * d + c) = r c) (hF : rr_Fx acc fo) {post : SX → Prop}
    (H : ∀ fo', rr_Fx (rr_arr sz ks os r acc) fo' → post (ec, nI (rr_arr sz ks os r acc).length, sz, ks, os, hi, et, ek, eo, mb, kb, oc, pa, upd nt d 0, fo')) : wpX_arriveAt post (ec, nI acc.length, sz, ks, os, hi, et, ek, eo, mb, kb, oc, pa, nt, fo) (nI d) := by
  refine ⟨pk_in d 9 (by omega) rfl, nm_r (show _ = upd nt d 0 by rw [nI_clamp (by omega)]) (xs_thr_path hP hR hd hr ?_)⟩
  rcases z : rr_any sz ks os r with _ | _
  · have e1 : rr_arr sz ks os r acc = rr_note acc r := if_neg (by rw [z]; decide)
    rw [e1] at H
    refine br_t (rr_msk0.mpr z) (xs_isFound (by omega) hd hr hF (rr_bd (fun y => ?_) (fun y => ?_)))
    · rw [rr_note_f (by rw [y]; decide)] at H
      exact xs_keep hn hd hr hF (fun fo' hF' => H fo' hF')
    · rw [rr_note_t y] at H
      exact H fo hF
  · have e1 : rr_arr sz ks os r acc = acc := if_pos z
    rw [e1] at H
    exact br_f (fun y => by rw [rr_msk0.mp y] at z; cases z) (H fo hF)
end
section
variable {ec : Int32} {sz ks os hi et ek eo mb kb oc : Nat → Int32} {S : Nat → Nat}
theorem xg_node (hP : rr_Pg sz ks os S) {post : SX → Prop} : ∀ f r p d, rr_Rk S r p → rr_rm S p 0 + rr_rm S p 1 + rr_rm S p 2 ≤ f → d + (rr_rm S p 0 + rr_rm S p 1 + rr_rm S p 2) ≤ 8 →
    ∀ j t, t + j = 3 → ∀ acc pa nt fo w n,
      (∀ c, c < 10 → pa (10 * d + c) = r c) → rr_Fx acc fo → (rr_any sz ks os r = true → acc.length + rr_ls f (rr_rm S p) j ≤ 560) → nt d = nI t →
      w + (j + 1 + 4 * rr_ns f (rr_rm S p) j) ≤ 20160 → 20161 ≤ n + w →
      (∀ pa' nt' fo' w' n', w' ≤ w + (j + 1 + 4 * rr_ns f (rr_rm S p) j) → n' + w' = n + w → (∀ i, i < 10 * d → pa' i = pa i) → (∀ i, i < d → nt' i = nt i) → rr_Fx (rr_from sz ks os (rr_dfs sz ks os f) r j acc) fo' →
        wX_findOutcomes_45 post n' (nI d + (-1)) (nI w') ec (nI (rr_from sz ks os (rr_dfs sz ks os f) r j acc).length) sz ks os hi et ek eo mb kb oc pa' nt' fo') →
      wX_findOutcomes_45 post n (nI d) (nI w) ec (nI acc.length) sz ks os hi et ek eo mb kb oc pa nt fo := by
  intro f
  induction f using Nat.strongRecOn with
  | _ f ihf =>
  intro r p d hR hf hd j
  induction j with
  | zero =>
    intro t htj acc pa nt fo w n hr hF hB hnt hw hn hc
    obtain rfl : t = 3 := by omega
    obtain ⟨n, rfl⟩ : ∃ m, n = m + 1 := ⟨n - 1, by omega⟩
    have cd : (nI d).toNatClampNeg = d := nI_clamp (by omega)
    refine br_f (nI_ge (b := 20160) (by omega) (by decide)) (br_f (nI_pos (by omega)) ⟨pk_in d 9 (by omega) rfl, nm_r (show _ = nI 3 by rw [cd]; exact hnt) (br_t rfl (nm_e (nm_r (nI_1 w) (hc pa nt fo (w + 1) n (by omega) (by omega) (fun i _ => rfl) (fun i _ => rfl) hF))))⟩)
  | succ j ihj =>
    intro t htj acc pa nt fo w n hr hF hB hnt hw hn hc
    obtain ⟨n, rfl⟩ : ∃ m, n = m + 1 := ⟨n - 1, by omega⟩
    have ht : t < 3 := by omega
    have hjt : 2 - j = t := by omega
    have cd : (nI d).toNatClampNeg = d := nI_clamp (by omega)
    have vd : vp_in (nI d) 9 := pk_in d 9 (by omega) rfl
    have hns : rr_ns f (rr_rm S p) (j + 1) = rr_nk f t (rr_rm S p) + rr_ns f (rr_rm S p) j := by rw [← hjt]; rfl
    have hls : rr_ls f (rr_rm S p) (j + 1) = rr_lk f t (rr_rm S p) + rr_ls f (rr_rm S p) j := by rw [← hjt]; rfl
    have hfrom : rr_from sz ks os (rr_dfs sz ks os f) r (j + 1) acc = rr_from sz ks os (rr_dfs sz ks os f) r j (rr_kid sz ks os (rr_dfs sz ks os f) t r acc) := by rw [← hjt]; rfl
    rw [hfrom] at hc
    rw [hns] at hw hc
    rw [hls] at hB
    refine br_f (nI_ge (b := 20160) (by omega) (by decide)) (br_f (nI_pos (by omega)) ⟨vd, nm_r (show _ = nI t by rw [cd]; exact hnt) (br_f (rr_t3 t ht) ⟨vd, nm_r (show _ = upd nt d (nI (t + 1)) by rw [cd, nI_1]) (xs_can_path hP hR (by omega) ht hr (rr_bd (fun z => ?_) (fun z => ?_)))⟩)⟩)
    · rw [rr_kid_f z] at hc
      refine nm_r (nI_1 w) (ihj (t + 1) (by omega) acc pa (upd nt d (nI (t + 1))) fo (w + 1) n hr hF (fun y => by have := hB y; omega) pk_us (by omega) (by omega) ?_)
      intro pa' nt' fo' w' n' h1 h2 h3 h4 h5
      exact hc pa' nt' fo' w' n' (by omega) (by omega) h3 (fun i hil => by rw [h4 i hil, pk_un (by omega)]) h5
    · have hl := (rr_lt hP hR ht).mp (rr_en_lt z)
      have hrm : rr_rm S p t ≠ 0 := by unfold rr_rm; omega
      obtain ⟨f, rfl⟩ : ∃ m, f = m + 1 := ⟨f - 1, by
        rcases (show t = 0 ∨ t = 1 ∨ t = 2 by omega) with rfl | rfl | rfl <;> omega⟩
      rw [rr_kid_t z] at hc
      have hR1 := rr_st_Rk hP hR ht z
      have hbk := hB (rr_any_t ht z)
      have hlk : rr_lk (f + 1) t (rr_rm S p) = rr_LV (f + 1) (rr_rm S (rr_inc t p)) := by unfold rr_lk; rw [if_neg hrm, rr_rm_inc hl]
      have hnk : rr_nk (f + 1) t (rr_rm S p) = 1 + rr_ns f (rr_rm S (rr_inc t p)) 3 := by unfold rr_nk; rw [if_neg hrm, ← rr_rm_inc hl, rr_ND_s]
      have hroom := rr_room hP hR1 (f := f) (acc := acc) (by rw [← hlk]; omega)
      have hrk := rr_rm_kid ht hl hf
      have hrk8 : d + 1 + (rr_rm S (rr_inc t p) 0 + rr_rm S (rr_inc t p) 1 + rr_rm S (rr_inc t p) 2) ≤ 8 := by
        have h0 : ∃ m, rr_rm S p 0 + rr_rm S p 1 + rr_rm S p 2 = m + 1 := ⟨rr_rm S p 0 + rr_rm S p 1 + rr_rm S p 2 - 1, by rcases (show t = 0 ∨ t = 1 ∨ t = 2 by omega) with rfl | rfl | rfl <;> omega⟩
        obtain ⟨m, hm⟩ := h0
        have := rr_rm_kid ht hl (Nat.le_of_eq hm)
        omega
      have hlen := (rr_dfs_len hP (f + 1) (rr_st ks os t r) (rr_inc t p) acc hR1 (by omega)).2.1
      have hd8 : d < 8 := by omega
      refine xs_take_path hP hR hd8 ht hr (rr_en_lt z) (fun a ha hfr => nm_r (nI_1 d) (xs_arr hP hR1 hroom.1 (by omega) ha hF (fun fo1 hF1 => nm_r (nI_1 w) ?_)))
      refine ihf f (by omega) (rr_st ks os t r) (rr_inc t p) (d + 1) hR1 hrk hrk8 3 0 rfl (rr_arr sz ks os (rr_st ks os t r) acc) a (upd (upd nt d (nI (t + 1))) (d + 1) 0) fo1 (w + 1) n ha hF1 hroom.2 pk_us (by omega) (by omega) ?_
      intro pa2 nt2 fo2 w2 n2 h1 h2 h3 h4 h5
      rw [pk_m1]
      refine ihj (t + 1) (by omega) (rr_dfs sz ks os (f + 1) (rr_st ks os t r) acc) pa2 nt2 fo2 w2 n2 (fun c hcl => ?_) h5 (fun _ => by omega) ?_ (by omega) (by omega) ?_
      · rw [h3 _ (by omega), hfr _ (by omega)]; exact hr c hcl
      · rw [h4 d (by omega), pk_un (by omega), pk_us]
      · intro pa' nt' fo' w' n' g1 g2 g3 g4 g5
        refine hc pa' nt' fo' w' n' (by omega) (by omega) (fun i hil => ?_) (fun i hil => ?_) g5
        · rw [g3 i hil, h3 i (by omega), hfr i (by omega)]
        · rw [g4 i hil, h4 i (by omega), pk_un (by omega), pk_un (by omega)]
end
section
variable {ec fx : Int32} {sz ks os hi et ek eo mb kb oc pa nt fo : Nat → Int32}
variable {S p : Nat → Nat} {r : Nat → Int32} {e : Nat}
theorem xs_find (hP : rr_Pg sz ks os S) (hR : rr_Rk S r p) (he : e ≤ 8) (hr : ∀ c, c < 10 → hi (10 * e + c) = r c) {post : SX → Prop}
    (H : ∀ pa' nt' fo', rr_Fx (rr_dfs sz ks os 9 r []) fo' → post (ec, nI (rr_dfs sz ks os 9 r []).length, sz, ks, os, hi, et, ek, eo, mb, kb, oc, pa', nt', fo')) : wpX_findOutcomes post (ec, fx, sz, ks, os, hi, et, ek, eo, mb, kb, oc, pa, nt, fo) (nI e) := by
  obtain ⟨hrm, hLV, hND⟩ := rr_root hP hR
  rw [rr_ND_s] at hND
  have hroom := rr_room hP hR (f := 8) (acc := []) (by simpa using hLV)
  refine loop_0 (fun n i a => wX_findOutcomes_2 post (nI e) ec fx n (nI i) sz ks os hi et ek eo mb kb oc a nt fo) (fun i a => ∀ c, c < i → a c = r c) 10 pa (fun c hc => by omega) ?_ ?_
  · intro n a h1
    have hr0 : ∀ c, c < 10 → a (10 * 0 + c) = r c := fun c hc => by rw [show 10 * 0 + c = c by omega]; exact h1 c hc
    have F0 : rr_Fx [] fo := fun k o h => by cases h
    refine br_t (show (10 : Int32) ≤ nI 10 by decide) (xs_arr (acc := []) (d := 0) hP hR (by simp) (by omega) hr0 F0 (fun fo1 hF1 => ⟨20161, ?_⟩))
    refine xg_node hP 8 r p 0 hR hrm (by omega) 3 0 rfl (rr_arr sz ks os r []) a (upd nt 0 0) fo1 0 20161 hr0 hF1 hroom.2 pk_us (by omega) (by omega) ?_
    intro pa' nt' fo' w' n' h2 h3 h4 h5 h6
    obtain ⟨n', rfl⟩ : ∃ m, n' = m + 1 := ⟨n' - 1, by omega⟩
    exact br_c (fun _ => H pa' nt' fo' h6) (fun _ => br_t (by decide) (H pa' nt' fo' h6))
  · intro n i a hil h1 ih
    have e2 := rr_ix0 e i
    refine br_f (nI_ge (b := 10) hil (by decide)) ⟨pk_in _ _ (by omega) e2, pk_in i 90 (by omega) rfl, nm_r (show _ = upd a i (r i) by rw [e2, nI_clamp (by omega), nI_clamp (by omega), hr i hil]) (nm_r (nI_1 i) (ih _ (fun c hc => ?_)))⟩
    rcases Nat.decEq c i with z | z
    · rw [pk_un z]; exact h1 c (by omega)
    · rw [z, pk_us]
end
