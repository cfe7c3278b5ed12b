/-! calls, takes -/
theorem pu_So0.er {T : pu_T} {S : pu_S} (hS : pu_So0 T S) {i m n : Nat} (hi : (pu_rw S)[i]? = some (m, n)) : pu_So0 T (pu_sr S ((pu_rw S).eraseIdx i)) := by
  obtain ⟨s1, s2, s3, s4, s5⟩ := hS
  have := pu_sw_er _ _ _ _ hi
  exact ⟨by show pu_cl S + pu_sw ((pu_rw S).eraseIdx i) ≤ 999; omega, s2, s3.er i, s4, s5⟩
theorem pu_calls (a : Int32) {f : am_M} (h : pu_R f) : pu_Go (D_X7_calls a) (D_X8_calls a) f := by
  obtain ⟨T, X, N, P, I0, I1, Z, hV, hC, hM⟩ := id h
  have hT := hV.1
  have hS := hV.2.2.1
  have hnm := hT.2.1
  have hc := hS.cl
  have hl := hS.len hT
  rcases pu_in a (pu_nm T) with ⟨m, hm, rfl⟩ | hn
  rotate_left
  · refine pu_same (r := -1) h ?_ ?_
    · unfold D_X7_calls; rw [pu_hasNoM hC.1.2.1 hn, pu_bI, pu_i00]
    · unfold D_X8_calls; rw [pu_isNoM hM.1.2.1 hn (by omega), pu_bI, pu_i00]
  have cA : D_X6_hasMaker (nI m) f = some (1, f) := pu_hasM hC.1.2.1 hm (by omega)
  have cB : ∀ g, pu_M T X N P I0 I1 Z g → D_X8_isMaker (nI m) g = some (1, g) := fun g hg => pu_isM hg.1.2.1 hm (by omega)
  have c16 : f 16 m = nI (pu_wa (pu_rw N) m) := hC.2.2.1.1.2.2.2.2.2.2.2 m (by omega)
  cases hx : pu_ix (pu_rw N) m with
  | none =>
    refine pu_same (r := -2) h ?_ ?_
    · unfold D_X7_calls
      rw [cA, pu_bI, pu_i10, pu_chk (by omega) (by decide), nI_clamp (by omega), c16, (pu_ix_none _ _ hx).1, if_pos nI_0]
    · unfold D_X8_calls
      rw [cB f hM, pu_bI, pu_i10, pu_mPlace hT hS hM.2.2.1 (by omega), hx, pu_bI, if_pos (show pu_cd none = -9 from rfl)]
  | some i =>
    obtain ⟨⟨m', n⟩, q1, q2, q3⟩ := pu_ix_some _ _ _ hx
    have q2 : m' = m := q2
    have q3 : n = pu_wa (pu_rw N) m := q3
    subst q2
    have hq := (hS.2.2.1.1 (m', n) (List.mem_of_getElem? q1)).2
    simp at hq
    have hil := pu_lt_len q1
    have hz : ¬ nI n = 0 := nI_ne0 (by omega) (by omega)
    rw [← q3] at c16
    have h0 : pu_So0 T (pu_sr N ((pu_rw N).eraseIdx i)) := hS.s0.er q1
    have hlen : (pu_rw (pu_sr N ((pu_rw N).eraseIdx i))).length ≤ 3 := by
      show ((pu_rw N).eraseIdx i).length ≤ 3
      rw [pu_len_er q1]; omega
    obtain ⟨o1, o2, o3⟩ := pu_ad_ok hT 3 _ hlen h0
    have e23 : (23 : Int32) + nI i = nI (23 + i) := nI_add 23 i
    refine pu_do (N' := pu_ad T 3 (pu_sr N ((pu_rw N).eraseIdx i))) (r := nI n) (c := none) (KA := fun f2 => am_bV (D_X4_leaveRow 11 999 (nI m') f2) fun f3 => am_bV (D_X4_admit 11 999 f3) fun f4 => some (nI n, f4)) (KB := fun f3 => am_chk ((23 : Int32) + nI i) 1026 (am_bV (D_X8_leavesRow (nI i) f3) fun f4 => am_bV (D_X8_lets f4) fun f5 => some ((f3 95 ((23 : Int32) + nI i).toNatClampNeg), f5))) hV hC hM o1 o2 (fun k hk => by rw [if_neg (by simp), o3 k hk]; rfl) (fun k hk => by simp at hk) ?_ (fun g hg => ?_) (fun f1 h1 => ?_) (fun g1 h1 => ?_)
    · unfold D_X7_calls
      rw [cA, pu_bI, pu_i10, pu_chk (by omega) (by decide), nI_clamp (by omega), c16, if_neg hz]
      rfl
    · unfold D_X8_calls
      rw [cB g hg, pu_bI, pu_i10, pu_mPlace hT hS hg.2.2.1 (by omega), hx, pu_bI, if_neg (show ¬ pu_cd (some i) = -9 from pu_neg9 (a := i) (by omega))]
      rfl
    · obtain ⟨b1, b2⟩ := h1.2.2.1
      obtain ⟨f2, x1, x2, x3⟩ := pu_cLeave (p := 11) (e := 999) hT hS.s0 b1 q1 hx
      have hE : pu_Ec (pu_sr N ((pu_rw N).eraseIdx i)) (f2 17) := by rw [x2 17 (by omega)]; exact b2
      obtain ⟨f3, y1, y2, y3, y4⟩ := pu_cAdmit (p := 11) (by decide) hT am_fu 3 0 _ f2 hlen (by decide) (by decide) h0 (pu_frT (fun q h1 h2 => x2 q (by omega)) h1.1) x3 hE
      refine ⟨f3, ?_, fun q hq => by rw [y2 q (by omega), x2 q (by omega)], y3, y4⟩
      show am_bV (D_X4_leaveRow 11 999 (nI m') f1) _ = _
      rw [x1, pu_bV, show D_X4_admit 11 999 f2 = _ from y1, pu_bV]
    · have b3 := h1.2.2.1
      obtain ⟨g2, x1, x2, x3⟩ := pu_mLeave hT hl hc b3 q1
      obtain ⟨g3, y1, y2, y3⟩ := pu_mLets hT am_fu 3 _ g2 hlen (by decide) h0 (by rw [x2 91 (by decide), x2 92 (by decide), x2 93 (by decide), x2 94 (by decide)]; exact h1.1) x3
      refine ⟨g3, ?_, fun q hq => by rw [y2 q hq, x2 q hq], y3⟩
      show am_chk ((23 : Int32) + nI i) 1026 _ = _
      rw [e23, pu_chk (by omega) (by decide), x1, pu_bV, show D_X8_lets g2 = _ from y1, pu_bV, nI_clamp (by omega), (b3.2.2.2.2.2.1 i _ q1).2]
/-! takes -/
def pu_rem (x : Int32) : Int32 := x - x / (am_int 9973) * (am_int 9973)
/-- count and sum over the events from k on -/
def pu_go (ev : Nat → Nat × Nat × Nat) (t : Nat) : Nat → Nat → Int32 × Int32 → Int32 × Int32
  | 0, _, c => c
  | d + 1, k, c => pu_go ev t d (k + 1) (if (ev k).1 = 1 then (c.1 + 1, pu_rem ((((31 : Int32) * c.2) + nI (ev k).2.2) + nI t)) else c)
/-- a taker gone on to v -/
def pu_tk (S : pu_S) (t v : Nat) : pu_S := (S.1, S.2.1, pu_un (pu_dn S) t v, upd (pu_ct S) t (pu_go (pu_ev S) t (v - pu_dn S t) (pu_dn S t) (pu_ct S t, pu_sm S t)).1, upd (pu_sm S) t (pu_go (pu_ev S) t (v - pu_dn S t) (pu_dn S t) (pu_ct S t, pu_sm S t)).2, pu_rw S)
theorem pu_so_min {dn : Nat → Nat} {b : Nat} : ∀ i s, pu_so dn b i = some s → ∀ u, u < i → b / 2 ^ u % 2 = 1 → dn s ≤ dn u
  | 0, s, h, u, hu, _ => absurd hu (Nat.not_lt_zero _)
  | i + 1, s, h, u, hu, hb => by
    by_cases hbi : b / 2 ^ i % 2 = 1
    · cases hs : pu_so dn b i with
      | none =>
        rw [pu_so_n hbi hs] at h
        simp at h
        subst h
        by_cases e : u = i
        · rw [e]; exact Nat.le_refl _
        · exact absurd hs (pu_so_ex hb i (by omega))
      | some q =>
        have ih := pu_so_min i q hs
        by_cases hq : dn i < dn q
        · rw [pu_so_a hbi hs hq] at h
          simp at h
          subst h
          by_cases e : u = i
          · rw [e]; exact Nat.le_refl _
          · have := ih u (by omega) hb; omega
        · rw [pu_so_b hbi hs hq] at h
          simp at h
          subst h
          by_cases e : u = i
          · rw [e]; omega
          · exact ih u (by omega) hb
    · rw [pu_so_0 hbi] at h
      by_cases e : u = i
      · rw [e] at hb; exact absurd hb hbi
      · exact pu_so_min i s h u (by omega) hb
theorem pu_le_dmono {dn dn' : Nat → Nat} {c : Nat} (h : ∀ t, dn t ≤ dn' t) : ∀ k, pu_le dn c k ≤ pu_le dn' c k
  | 0 => Nat.le_refl _
  | k + 1 => by
    have ih := pu_le_dmono (c := c) h k
    have := h k
    show (if dn k < pu_le dn c k then dn k else pu_le dn c k) ≤ (if dn' k < pu_le dn' c k then dn' k else pu_le dn' c k)
    split <;> split <;> omega
theorem pu_am_cu {T : pu_T} {S : pu_S} (hS : pu_Sok T S) (t : Nat) : pu_am T S t ≤ pu_cu S := by
  unfold pu_am
  cases hs : pu_so (pu_dn S) (pu_bh T t) (pu_nt T) with
  | none => exact Nat.le_refl _
  | some s => exact (hS.2.2.2.1 s (pu_so_lt _ _ hs).1).1
theorem pu_tk_s0 {T : pu_T} {S : pu_S} (hS : pu_Sok T S) {t v : Nat} (ht : t < pu_nt T) (h1 : pu_dn S t ≤ v) (h2 : v ≤ pu_am T S t) : pu_So0 T (pu_tk S t v) := by
  obtain ⟨s1, s2, s3, s4, s5, s6⟩ := id hS
  have hcu : pu_cu (pu_tk S t v) = pu_cu S := rfl
  have ha := pu_am_cu hS t
  have hdn : ∀ u, pu_dn S u ≤ pu_dn (pu_tk S t v) u := fun u => by
    show _ ≤ pu_un (pu_dn S) t v u
    unfold pu_un
    by_cases e : u = t
    · rw [if_pos e, e]; exact h1
    · rw [if_neg e]; exact Nat.le_refl _
  refine ⟨s1, s2, s3, fun u hu => ⟨?_, fun w hw hb => ?_⟩, ?_⟩
  · rw [hcu]
    show pu_un (pu_dn S) t v u ≤ _
    unfold pu_un
    by_cases e : u = t
    · rw [if_pos e]; omega
    · rw [if_neg e]; exact (s4 u hu).1
  · have h3 := hdn w
    by_cases e : u = t
    · subst e
      show pu_un (pu_dn S) u v u ≤ pu_un (pu_dn S) u v w
      unfold pu_un
      rw [if_pos rfl, if_neg (by omega)]
      unfold pu_am at h2
      cases hs : pu_so (pu_dn S) (pu_bh T u) (pu_nt T) with
      | none => exact absurd hs (pu_so_ex hb _ (by omega))
      | some s =>
        rw [hs] at h2
        have h2 : v ≤ pu_dn S s := h2
        have := pu_so_min _ _ hs w (by omega) hb
        omega
    · have h4 := (s4 u hu).2 w hw hb
      show pu_un (pu_dn S) t v u ≤ _
      rw [show pu_un (pu_dn S) t v u = pu_dn S u by unfold pu_un; rw [if_neg e]]
      omega
  · have h1 : pu_lst T S ≤ pu_lst T (pu_tk S t v) := pu_le_dmono (c := pu_cl S) hdn (pu_nt T)
    show pu_cl S ≤ _
    omega
/-- the component's walk -/
theorem pu_cgo {T : pu_T} {S : pu_S} {p t v x3 : Nat} (hp : 6 < p) (ht : t < 6) (hc : pu_cl S ≤ 999) (hE : pu_Eok (pu_ev S) (pu_cl S)) (hv : v ≤ pu_cl S) (K : am_M → Option (Int32 × am_M)) (hK : ∀ g, K g = am_chk (nI t) 6 (am_bV (D_X4_admit p 999 (am_wr g (p + 1) t (nI v))) fun f5 => some ((nI v - nI x3), f5))) : ∀ d fu k (f : am_M), k + d = v → d < fu → pu_Ec S (f (p + 6)) → ∃ g, D_X4_goOver_31 p 999 fu (nI t) (nI x3) (nI v) (nI k) f = K g ∧ (∀ q, q ≠ p + 2 → q ≠ p + 3 → g q = f q) ∧ (∀ j, g (p + 2) j = upd (f (p + 2)) t (pu_go (pu_ev S) t d k (f (p + 2) t, f (p + 3) t)).1 j) ∧ (∀ j, g (p + 3) j = upd (f (p + 3)) t (pu_go (pu_ev S) t d k (f (p + 2) t, f (p + 3) t)).2 j)
  | d, 0, k, f, _, h, _ => absurd h (by omega)
  | 0, fu + 1, k, f, h1, h2, hF => by
    have : k = v := by omega
    subst this
    refine ⟨f, ?_, fun _ _ _ => rfl, fun j => ?_, fun j => ?_⟩
    · rw [hK]
      unfold D_X4_goOver_31
      rw [if_neg (pu_nlt (Nat.le_refl _) (by omega)), nI_clamp (by omega)]
    · show f (p + 2) j = upd (f (p + 2)) t (f (p + 2) t) j
      by_cases e : j = t
      · simp [upd, e]
      · simp [upd, e]
    · show f (p + 3) j = upd (f (p + 3)) t (f (p + 3) t) j
      by_cases e : j = t
      · simp [upd, e]
      · simp [upd, e]
  | d + 1, fu + 1, k, f, h1, h2, hF => by
    have hk : k < pu_cl S := by omega
    have e9 : nI k < Int32.ofNat 999 := pu_lt (b := 999) (by omega) (by decide)
    have hkd := pu_cKind (p := p) hc hE hF hk
    have a1 := (hE k hk).1
    by_cases hz : (pu_ev S k).1 = 1
    · obtain ⟨F, hFd⟩ : ∃ F, F = am_wr (am_wr f (p + 2) t (f (p + 2) t + 1)) (p + 3) t (pu_rem ((((31 : Int32) * f (p + 3) t) + nI (pu_ev S k).2.2) + nI t)) := ⟨_, rfl⟩
      have hF6 : pu_Ec S (F (p + 6)) := by rw [hFd, am_wr_ne _ (by omega), am_wr_ne _ (by omega)]; exact hF
      obtain ⟨g, y1, y2, y3, y4⟩ := pu_cgo (T := T) hp ht hc hE hv K hK d fu (k + 1) F (by omega) (by omega) hF6
      have f2 : F (p + 2) t = f (p + 2) t + 1 := by rw [hFd, pu_wr_n1 (by omega), pu_wr_eq]
      have f3 : F (p + 3) t = pu_rem ((((31 : Int32) * f (p + 3) t) + nI (pu_ev S k).2.2) + nI t) := by rw [hFd, pu_wr_eq]
      have eg : pu_go (pu_ev S) t (d + 1) k (f (p + 2) t, f (p + 3) t) = pu_go (pu_ev S) t d (k + 1) (F (p + 2) t, F (p + 3) t) := by
        show pu_go (pu_ev S) t d (k + 1) (if (pu_ev S k).1 = 1 then _ else _) = _
        rw [if_pos hz, f2, f3]
      refine ⟨g, ?_, fun q a b => by rw [y2 q a b, hFd, am_wr_ne q b, am_wr_ne q a], fun j => ?_, fun j => ?_⟩
      · have hvl := pu_cValue (p := p) (f := am_wr f (p + 2) t (f (p + 2) t + 1)) hc hE (fun k hk => by rw [pu_wr_n1 (by omega)]; exact hF k hk) hk
        unfold D_X4_goOver_31
        rw [if_pos (pu_lt (by omega) (by omega)), if_pos e9, hkd, pu_bI, hz, if_pos (show nI 1 = 1 from rfl), pu_chk ht (by decide), pu_chk ht (by decide), pu_chk ht (by decide), nI_clamp (by omega), hvl, pu_bI, pu_chk ht (by decide), nI_1]
        rw [hFd] at y1
        exact y1
      · rw [y3 j, eg]
        by_cases e : j = t
        · simp [upd, e]
        · simp [upd, e]
          rw [hFd, pu_wr_n1 (by omega), pu_wr_n2 e]
      · rw [y4 j, eg]
        by_cases e : j = t
        · simp [upd, e]
        · simp [upd, e]
          rw [hFd, pu_wr_n2 e, pu_wr_n1 (by omega)]
    · obtain ⟨g, y1, y2, y3, y4⟩ := pu_cgo (T := T) hp ht hc hE hv K hK d fu (k + 1) f (by omega) (by omega) hF
      have eg : pu_go (pu_ev S) t (d + 1) k (f (p + 2) t, f (p + 3) t) = pu_go (pu_ev S) t d (k + 1) (f (p + 2) t, f (p + 3) t) := by
        show pu_go (pu_ev S) t d (k + 1) (if (pu_ev S k).1 = 1 then _ else _) = _
        rw [if_neg hz]
      refine ⟨g, ?_, y2, fun j => by rw [y3 j, eg], fun j => by rw [y4 j, eg]⟩
      unfold D_X4_goOver_31
      rw [if_pos (pu_lt (by omega) (by omega)), if_pos e9, hkd, pu_bI, if_neg (show ¬ nI (pu_ev S k).1 = 1 from pu_ne (b := 1) hz (by omega) (by decide)), nI_1]
      exact y1
