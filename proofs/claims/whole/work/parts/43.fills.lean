/-! calls that remember what is, and change it -/
theorem pu_Ch.take {N : pu_S} : ∀ {P : List (pu_S × Option Nat)} (n : Nat), pu_Ch N P → pu_Ch N (P.take n)
  | [], n, _ => by simp [pu_Ch]
  | (O, c) :: P, 0, _ => by simp [pu_Ch]
  | (O, c) :: P, n + 1, h => by
    rw [List.take_succ_cons]
    exact ⟨h.1, h.2.1, h.2.2.1, pu_Ch.take n h.2.2.2⟩
section DO
variable {T : pu_T} {X : Nat × (Nat → Int32)} {N N' : pu_S} {P : List (pu_S × Option Nat)} {I0 I1 : Option pu_S} {Z : Nat × (Nat → Nat) × (Nat → Int32)} {f f' : am_M}
theorem pu_setC (hC : pu_C T X N P I0 I1 Z f) (e : ∀ q, q < 11 ∨ 17 < q → f' q = f q) (h1 : pu_Sf N' f' 11) (h2 : pu_Ec N' (f' 17)) : pu_C T X N' P I0 I1 Z f' := by
  obtain ⟨a1, a2, a3, a4, ⟨a5, a6⟩, a7⟩ := hC
  exact ⟨pu_frT (fun q h1 h2 => e q (by omega)) a1, pu_fcX (fun q h1 h2 => e q (by omega)) a2, ⟨h1, h2⟩, pu_frP (fun q h1 h2 => e q (by omega)) a4, ⟨pu_frI rfl (fun q h1 h2 => e q (by omega)) a5, pu_frI rfl (fun q h1 h2 => e q (by omega)) a6⟩, pu_fcZ (fun q h1 h2 => e q (by omega)) a7⟩
theorem pu_setM (hM : pu_M T X N P I0 I1 Z f) (e : ∀ q, q ≠ 95 → f' q = f q) (h : pu_Sm N' (f' 95)) : pu_M T X N' P I0 I1 Z f' := by
  obtain ⟨m1, m2, m3, m4, ⟨m6, m7⟩, m8⟩ := hM
  exact ⟨pu_fmT (by rw [e 91 (by decide)]) (by rw [e 91 (by decide)]) (by rw [e 91 (by decide)]) (fun q a b => e q (by omega)) m1, pu_fmX (by rw [e 91 (by decide)]) (e 101 (by decide)) m2, h, pu_fmP (by rw [e 91 (by decide)]) (e 96 (by decide)) m4, ⟨pu_fmI (e 97 (by decide)) (e 98 (by decide)) m6, pu_fmI (e 97 (by decide)) (e 98 (by decide)) m7⟩, pu_fmZ (by rw [e 91 (by decide)]) (e 99 (by decide)) (e 100 (by decide)) m8⟩
theorem pu_do {A B : am_M → Option (Int32 × am_M)} {r : Int32} {c : Option Nat} {KA KB : am_M → Option (Int32 × am_M)} (hV : pu_V T X N P I0 I1 Z) (hC : pu_C T X N P I0 I1 Z f) (hM : pu_M T X N P I0 I1 Z f)
    (hS' : pu_Sok T N') (h1 : pu_cl N ≤ pu_cl N') (h2 : ∀ k, k < pu_cl N → pu_ev N k = if c = some k then (0, (pu_ev N' k).2.1, 0) else pu_ev N' k) (h3 : ∀ k, c = some k → k < pu_cl N)
    (hA : A f = am_bV (D_X2_remember (pu_cd c) f) KA) (hB : ∀ g, pu_M T X N P I0 I1 Z g → B g = am_bV (D_X8_keeps g) KB)
    (kA : ∀ f1, pu_C T X N (((N, c) :: P).take 6) I0 I1 Z f1 → ∃ f2, KA f1 = some (r, f2) ∧ (∀ q, q < 11 ∨ 17 < q → f2 q = f1 q) ∧ pu_Sf N' f2 11 ∧ pu_Ec N' (f2 17))
    (kB : ∀ g1, pu_M T X N (((N, c) :: P).take 6) I0 I1 Z g1 → ∃ g2, KB g1 = some (r, g2) ∧ (∀ q, q ≠ 95 → g2 q = g1 q) ∧ pu_Sm N' (g2 95)) : pu_Go A B f := by
  obtain ⟨hT, hX, hS, ⟨hCh, hPl, hP⟩, hI0, hI1, hZ⟩ := hV
  have hB' := hS.B hT
  obtain ⟨f1, x1, x2, x3⟩ := pu_remember hC hB'.1 hB'.2 c
  obtain ⟨f2, y1, y2, y3, y4⟩ := kA f1 x3
  have hCh' : pu_Ch N' (((N, c) :: P).take 6) := pu_Ch.take (P := (N, c) :: P) 6 ⟨h1, h2, h3, hCh⟩
  refine pu_join (T' := T) (X' := X) (N' := N') (P' := ((N, c) :: P).take 6) (I0' := I0) (I1' := I1) (Z' := Z) (r := r) (f1 := f2) ⟨hT, hX, hS', ⟨hCh', by simp; omega, fun q hq => ?_⟩, hI0, hI1, hZ⟩ (by rw [hA, x1, pu_bV, y1]) (fun q hq => by rw [y2 q (by omega), x2 q (by omega)]) (pu_setC x3 y2 y3 y4) hM (fun g hg => ?_)
  · rcases List.mem_cons.mp (List.mem_of_mem_take hq) with rfl | hq
    · exact hS
    · exact hP q hq
  · obtain ⟨g1, z1, z2, z3, z4⟩ := pu_keeps hg hB' (fun q hq => (hP q hq).B hT) hPl c
    obtain ⟨g2, w1, w2, w3⟩ := kB g1 z4
    exact ⟨g2, by rw [hB g hg, z1, pu_bV, w1], z2.trans (fun q hq => w2 q (by omega)), pu_setM z4 w2 w3⟩
end DO
theorem pu_cur_skip {ev : Nat → Nat × Nat × Nat} {d : Nat} : ∀ c k, (∀ j, k ≤ j → j < k + c → (ev j).1 ≠ 0) → pu_cur ev (c + d) k = pu_cur ev d (k + c)
  | 0, k, _ => by rw [Nat.zero_add, Nat.add_zero]
  | c + 1, k, h => by
    rw [show c + 1 + d = (c + d) + 1 by omega]
    show (if (ev k).1 = 0 then k else pu_cur ev (c + d) (k + 1)) = _
    rw [if_neg (h k (Nat.le_refl _) (by omega)), pu_cur_skip c (k + 1) (fun j h1 h2 => h j (by omega) (by omega)), show k + 1 + c = k + (c + 1) by omega]
theorem pu_wr_wr {f : am_M} {p k : Nat} {x y : Int32} : am_wr (am_wr f p k x) p k y = am_wr f p k y := by
  funext q j
  unfold am_wr
  by_cases hq : q = p
  · rw [if_pos hq, if_pos hq, if_pos hq]
    by_cases hj : j = k
    · rw [if_pos hj, if_pos hj]
    · rw [if_neg hj, if_neg hj, if_neg hj]
  · rw [if_neg hq, if_neg hq, if_neg hq]
theorem pu_wr_id {f : am_M} {p k : Nat} {x : Int32} (h : f p k = x) : am_wr f p k x = f := by
  funext q j
  unfold am_wr
  by_cases hq : q = p
  · rw [if_pos hq]
    by_cases hj : j = k
    · rw [if_pos hj, hq, hj, h]
    · rw [if_neg hj]
  · rw [if_neg hq]
theorem pu_close19 {p c : Nat} {ev : Nat → Nat × Nat × Nat} {f : am_M} (hc : c ≤ 999) (h0 : f p 2 = nI c) (hE : pu_Eok ev c) (hd : ∀ k, k < c → f (p + 6) k = pu_ce (ev k)) : ∀ d n u, u + d = c → d < n → D_X4_close_19 p 999 n (am_wr f p 3 (nI u)) = some (am_wr f p 3 (nI (pu_cur ev d u)))
  | d, 0, u, h1, h2 => absurd h2 (by omega)
  | 0, n + 1, u, h1, h2 => by
    have : u = c := by omega
    subst this
    unfold D_X4_close_19
    rw [pu_wr_eq, pu_wr_n2 (by decide), h0, if_neg (pu_nlt (Nat.le_refl _) (by omega))]
    rfl
  | d + 1, n + 1, u, h1, h2 => by
    have hu : u < c := by omega
    have e9 : nI u < Int32.ofNat 999 := pu_lt (b := 999) (by omega) (by decide)
    have ih := pu_close19 hc h0 hE hd d n (u + 1) (by omega) (by omega)
    have hk := pu_cKind (p := p) (f := am_wr f p 3 (nI u)) hc hE (fun k hk => by rw [pu_wr_n1 (by omega)]; exact hd k hk) hu
    have a1 := (hE u hu).1
    unfold D_X4_close_19
    rw [pu_wr_eq, pu_wr_n2 (by decide), h0, if_pos (pu_lt hu (by omega)), if_pos e9, hk, pu_bI, pu_wr_eq, pu_wr_wr, nI_1]
    show _ = some (am_wr f p 3 (nI (if (ev u).1 = 0 then u else pu_cur ev d (u + 1))))
    by_cases hz : (ev u).1 = 0
    · rw [hz, if_pos nI_0, if_pos rfl]
    · rw [if_neg (nI_ne0 (by omega) (by omega)), if_neg hz]
      exact ih
/-- a number closed -/
def pu_cz (S : pu_S) (k a v : Nat) : pu_S := (S.1, (fun j => if j = k then (a, (pu_ev S k).2.1, v) else pu_ev S j), S.2.2)
section CL
variable {T : pu_T} {S : pu_S} {k a v : Nat}
theorem pu_cz_ev (j : Nat) : pu_ev (pu_cz S k a v) j = if j = k then (a, (pu_ev S k).2.1, v) else pu_ev S j := rfl
theorem pu_cz_cu (hS : pu_Sok T S) (ha : a ≠ 0) : pu_cu (pu_cz S k a v) = pu_cur (pu_ev (pu_cz S k a v)) (pu_cl S - pu_cu S) (pu_cu S) := by
  have hu := pu_cu_le (S := S)
  have := pu_cur_skip (ev := pu_ev (pu_cz S k a v)) (d := pu_cl S - pu_cu S) (pu_cu S) 0 (fun j h1 h2 => by
    rw [pu_cz_ev]
    by_cases e : j = k
    · rw [if_pos e]; exact ha
    · rw [if_neg e]; exact pu_cur_ne (pu_cl S) 0 j h1 (by rw [Nat.zero_add] at h2; exact h2))
  rw [Nat.zero_add, show pu_cu S + (pu_cl S - pu_cu S) = pu_cl S by omega] at this
  exact this
theorem pu_cz_Eok (hS : pu_Sok T S) (hk : k < pu_cl S) (ha : a = 1 ∧ v ≤ 99 ∨ a = 2 ∧ v = 0) : pu_Eok (pu_ev (pu_cz S k a v)) (pu_cl S) := fun j hj => by
  rw [pu_cz_ev]
  by_cases e : j = k
  · rw [if_pos e]
    exact ⟨by show a ≤ 2; omega, (hS.2.1 k hk).2.1, by show v ≤ 99; omega, fun h => by have h' : a ≠ 1 := h; show v = 0; omega⟩
  · rw [if_neg e]; exact hS.2.1 j hj
theorem pu_cz_ok (hS : pu_Sok T S) (hk : k < pu_cl S) (ha : a = 1 ∧ v ≤ 99 ∨ a = 2 ∧ v = 0) : pu_Sok T (pu_cz S k a v) := by
  obtain ⟨s1, s2, s3, s4, s5, s6⟩ := id hS
  refine ⟨s1, pu_cz_Eok hS hk ha, s3, fun t ht => ⟨?_, (s4 t ht).2⟩, s5, s6⟩
  have h1 := (s4 t ht).1
  have h2 := pu_cz_cu (k := k) (a := a) (v := v) hS (by omega)
  have h3 := pu_cur_ge (ev := pu_ev (pu_cz S k a v)) (pu_cl S - pu_cu S) (pu_cu S)
  show pu_dn S t ≤ _
  omega
end CL
theorem pu_closes {T : pu_T} {X : Nat × (Nat → Int32)} {N : pu_S} {P : List (pu_S × Option Nat)} {I0 I1 : Option pu_S} {Z : Nat × (Nat → Nat) × (Nat → Int32)} {f : am_M} {k a v : Nat} {A B : am_M → Option (Int32 × am_M)} (hV : pu_V T X N P I0 I1 Z) (hC : pu_C T X N P I0 I1 Z f) (hM : pu_M T X N P I0 I1 Z f) (hk : k < pu_cl N) (ha : a = 1 ∧ v ≤ 99 ∨ a = 2 ∧ v = 0) (hA : A f = am_bI (D_X7_closeOpen (nI k) (nI a) (nI v) f) fun v f => some (v, f)) (hB : ∀ g, pu_M T X N P I0 I1 Z g → B g = am_bI (D_X8_becomes (nI k) (nI a) (nI v) g) fun v f => some (v, f)) : pu_Go A B f := by
  have h : pu_R f := ⟨T, X, N, P, I0, I1, Z, hV, hC, hM⟩
  have hS := hV.2.2.1
  have hc := hS.cl
  have hu := pu_cu_le (S := N)
  obtain ⟨c1, c2, c3, c4⟩ := hS.2.1 k hk
  have e1 : (26 : Int32) + nI k = nI (26 + k) := nI_add 26 k
  have kc := pu_cKind (p := 11) hc hS.2.1 hC.2.2.1.2 hk
  have km : ∀ g, pu_M T X N P I0 I1 Z g → D_X8_kindOf (nI k) g = some (nI (pu_ev N k).1, g) := fun g hg => by
    unfold D_X8_kindOf
    rw [e1, pu_chk (by omega) (by decide), nI_clamp (by omega), hg.2.2.1.2.2.2.2.2.2 k hk]
    unfold pu_me
    rw [(pu_mes _ (show (pu_ev N k).1 < 3 by omega) _ c2 _ (show (pu_ev N k).2.2 < 100 by omega)).1]
  by_cases hz : (pu_ev N k).1 = 0
  · have hv0 : (pu_ev N k).2.2 = 0 := c4 (by omega)
    refine pu_do (N' := pu_cz N k a v) (r := nI (pu_cu (pu_cz N k a v))) (c := some k) (KA := fun f2 => am_bI (am_bV (D_X4_close 11 999 (nI k) (nI a) (nI v) f2) fun f3 => some (f3 11 3, f3)) fun v f => some (v, f)) (KB := fun f2 => am_bI (am_chk ((26 : Int32) + nI k) 1026 (am_chk ((26 : Int32) + nI k) 1026 (am_bI (D_X8_cursor (am_wr f2 95 ((26 : Int32) + nI k).toNatClampNeg ((f2 95 ((26 : Int32) + nI k).toNatClampNeg) + (nI a + ((16 : Int32) * nI v))))) fun v3 f3 => some (v3, f3)))) fun v f => some (v, f)) hV hC hM (pu_cz_ok hS hk ha) (Nat.le_refl _) ?_ (fun j hj => by cases hj; exact hk) ?_ ?_ ?_ ?_
    · intro j hj
      rw [pu_cz_ev]
      by_cases e : j = k
      · subst e
        rw [if_pos rfl, if_pos rfl]
        exact Prod.ext hz (Prod.ext rfl hv0)
      · rw [if_neg (fun q => e (by cases q; rfl)), if_neg e]
    · rw [hA]
      unfold D_X7_closeOpen
      rw [kc, pu_bI, hz, if_pos nI_0]
      show am_bI (am_bV (D_X2_remember (pu_cd (some k)) f) _) _ = _
      cases D_X2_remember (pu_cd (some k)) f <;> rfl
    · intro g hg
      rw [hB g hg]
      unfold D_X8_becomes
      rw [km g hg, pu_bI, hz, if_pos nI_0]
      cases D_X8_keeps g <;> rfl
    · intro f1 h1
      obtain ⟨b1, b2⟩ := h1.2.2.1
      have hm := pu_cMaker (p := 11) hc hS.2.1 b2 hk
      have hx := pu_ces a (by omega) _ c2 v (by omega)
      have hw := pu_close19 (p := 11) (c := pu_cl N) (ev := pu_ev (pu_cz N k a v)) (f := am_wr f1 17 k (nI ((pu_ev N k).2.1 + 4 * a + 16 * v))) hc (by rw [pu_wr_n1 (by decide)]; exact b1.1) (pu_cz_Eok hS hk ha) (fun j hj => by
        rw [show (11 + 6 : Nat) = 17 from rfl, pu_wr_u, pu_cz_ev]
        by_cases e : j = k
        · rw [if_pos e]; simp [upd, e, pu_ce]
        · rw [if_neg e]; simp [upd, e]; exact b2 j hj) (pu_cl N - pu_cu N) am_fu (pu_cu N) (by omega) (by show _ < 6000; omega)
      rw [pu_wr_id (show am_wr f1 17 k _ 11 3 = nI (pu_cu N) by rw [pu_wr_n1 (by decide)]; exact b1.2.1), ← pu_cz_cu hS (by omega)] at hw
      refine ⟨am_wr (am_wr f1 17 k (nI ((pu_ev N k).2.1 + 4 * a + 16 * v))) 11 3 (nI (pu_cu (pu_cz N k a v))), ?_, fun q hq => by rw [am_wr_ne q (by omega), am_wr_ne q (by omega)], ?_, fun j hj => ?_⟩
      · show am_bI (am_bV (D_X4_close 11 999 (nI k) (nI a) (nI v) f1) _) _ = _
        unfold D_X4_close
        rw [hm, pu_bI, pu_chk (by omega) (by decide), nI_clamp (by omega), hx.2.2.2, show D_X4_close_19 11 999 am_fu (am_wr f1 (11 + 6) k _) = _ from hw, pu_bV, pu_bI, pu_wr_eq]
      · obtain ⟨d1, d2, d3, d4, d5, d6, d7, d8⟩ := b1
        refine ⟨?_, pu_wr_eq, ?_, ?_, ?_, ?_, ?_, ?_⟩
        · rw [pu_wr_n2 (by decide), pu_wr_n1 (by decide)]; exact d1
        · rw [pu_wr_n2 (by decide), pu_wr_n1 (by decide)]; exact d3
        · intro t ht; rw [pu_wr_n1 (by decide), pu_wr_n1 (by decide)]; exact d4 t ht
        · intro t ht; rw [pu_wr_n1 (by decide), pu_wr_n1 (by decide)]; exact d5 t ht
        · intro t ht; rw [pu_wr_n1 (by decide), pu_wr_n1 (by decide)]; exact d6 t ht
        · intro t q hq; rw [pu_wr_n1 (by decide), pu_wr_n1 (by decide)]; exact d7 t q hq
        · intro t ht; rw [pu_wr_n1 (by decide), pu_wr_n1 (by decide)]; exact d8 t ht
      · rw [pu_wr_n1 (by decide), pu_wr_u, pu_cz_ev]
        by_cases e : j = k
        · rw [if_pos e]; simp [upd, e, pu_ce]
        · rw [if_neg e]; simp [upd, e]; exact b2 j hj
    · intro g1 h1
      have b := h1.2.2.1
      have hadd : pu_me (pu_ev N k) + (nI a + ((16 : Int32) * nI v)) = nI (a + 4 * (pu_ev N k).2.1 + 16 * v) := by
        have e16 : (16 : Int32) * nI v = nI (16 * v) := pu_mul 16 v
        unfold pu_me
        rw [e16, nI_add, nI_add, hz, hv0]
        congr 1
        omega
      have hSm : pu_Sm (pu_cz N k a v) (am_wr g1 95 (26 + k) (nI (a + 4 * (pu_ev N k).2.1 + 16 * v)) 95) := by
        obtain ⟨d1, d2, d3, d4, d5, d6, d7⟩ := b
        refine ⟨?_, ?_, ?_, ?_, ?_, ?_, ?_⟩
        · rw [pu_wr_n2 (by omega)]; exact d1
        · rw [pu_wr_n2 (by omega)]; exact d2
        · intro t ht; rw [pu_wr_n2 (by omega)]; exact d3 t ht
        · intro t ht; rw [pu_wr_n2 (by omega)]; exact d4 t ht
        · intro t ht; rw [pu_wr_n2 (by omega)]; exact d5 t ht
        · intro i q hq
          have hi : i < 3 := by
            have := hS.len hV.1
            rcases Nat.lt_or_ge i (pu_rw N).length with h | h
            · omega
            · rw [show pu_rw (pu_cz N k a v) = pu_rw N from rfl, List.getElem?_eq_none h] at hq; simp at hq
          rw [pu_wr_n2 (by omega), pu_wr_n2 (by omega)]; exact d6 i q hq
        · intro j hj
          rw [pu_wr_u, pu_cz_ev]
          by_cases e : j = k
          · rw [if_pos e]; simp [upd, e, pu_me]
          · rw [if_neg e]; simp [upd, e]; exact d7 j hj
      refine ⟨am_wr g1 95 (26 + k) (nI (a + 4 * (pu_ev N k).2.1 + 16 * v)), ?_, fun q hq => am_wr_ne q hq, hSm⟩
      show am_bI (am_chk ((26 : Int32) + nI k) 1026 _) _ = _
      rw [e1, pu_chk (by omega) (by decide), pu_chk (by omega) (by decide), nI_clamp (by omega), b.2.2.2.2.2.2 k hk, hadd, pu_mCursor (pu_cz_ok hS hk ha) hSm, pu_bI, pu_bI]
  · have hz' : ¬ nI (pu_ev N k).1 = 0 := nI_ne0 (by omega) (by omega)
    refine pu_same (r := -2) h ?_ ?_
    · rw [hA]
      unfold D_X7_closeOpen
      rw [kc, pu_bI, if_neg hz', pu_bI]
    · rw [hB f hM]
      unfold D_X8_becomes
      rw [km f hM, pu_bI, if_neg hz', pu_bI]
theorem pu_gaps (a : Int32) {f : am_M} (h : pu_R f) : pu_Go (D_X7_gaps a) (D_X8_gaps a) f := by
  obtain ⟨T, X, N, P, I0, I1, Z, hV, hC, hM⟩ := id h
  have hc := hV.2.2.1.cl
  rcases pu_in a (pu_cl N) with ⟨k, hk, rfl⟩ | hn
  · refine pu_closes (a := 2) (v := 0) hV hC hM hk (Or.inr ⟨rfl, rfl⟩) ?_ (fun g hg => ?_)
    · unfold D_X7_gaps
      rw [pu_hasEvent hC.2.2.1.1.1 hk hc, pu_bI, pu_i10]
      rfl
    · unfold D_X8_gaps
      rw [pu_isE hg.2.2.1.1 hk (by omega), pu_bI, pu_i10]
      rfl
  · refine pu_same (r := -1) h ?_ ?_
    · unfold D_X7_gaps
      rw [pu_hasNoEvent hC.2.2.1.1.1 hn, pu_bI, pu_i00]
    · unfold D_X8_gaps
      rw [pu_isNoE hM.2.2.1.1 hn (by omega), pu_bI, pu_i00]
theorem pu_fills (a b : Int32) {f : am_M} (h : pu_R f) : pu_Go (D_X7_fills a b) (D_X8_fills a b) f := by
  obtain ⟨T, X, N, P, I0, I1, Z, hV, hC, hM⟩ := id h
  have hc := hV.2.2.1.cl
  rcases pu_in a (pu_cl N) with ⟨k, hk, rfl⟩ | hn
  · by_cases h0 : b < 0
    · refine pu_same (r := -1) h ?_ ?_
      · unfold D_X7_fills
        rw [pu_hasEvent hC.2.2.1.1.1 hk hc, pu_bI, pu_i10, if_pos h0]
      · unfold D_X8_fills D_X8_within
        rw [pu_isE hM.2.2.1.1 hk (by omega), pu_bI, pu_i10, if_pos h0, pu_bI, pu_i00]
    · obtain ⟨v, hv, rfl⟩ := nI_of h0
      by_cases hv9 : v ≤ 99
      · have e9 : ¬ (99 : Int32) < nI v := pu_nlt (a := 99) hv9 (by decide)
        refine pu_closes (a := 1) (v := v) hV hC hM hk (Or.inl ⟨rfl, hv9⟩) ?_ (fun g hg => ?_)
        · unfold D_X7_fills
          rw [pu_hasEvent hC.2.2.1.1.1 hk hc, pu_bI, pu_i10, if_neg h0, if_neg e9]
          rfl
        · unfold D_X8_fills D_X8_within
          rw [pu_isE hg.2.2.1.1 hk (by omega), pu_bI, pu_i10, if_neg h0, if_neg e9, pu_bI, pu_i10]
          rfl
      · have e9 : (99 : Int32) < nI v := pu_lt (a := 99) (by omega) hv
        refine pu_same (r := -1) h ?_ ?_
        · unfold D_X7_fills
          rw [pu_hasEvent hC.2.2.1.1.1 hk hc, pu_bI, pu_i10, if_neg h0, if_pos e9]
        · unfold D_X8_fills D_X8_within
          rw [pu_isE hM.2.2.1.1 hk (by omega), pu_bI, pu_i10, if_neg h0, if_pos e9, pu_bI, pu_i00]
  · refine pu_same (r := -1) h ?_ ?_
    · unfold D_X7_fills
      rw [pu_hasNoEvent hC.2.2.1.1.1 hn, pu_bI, pu_i00]
    · unfold D_X8_fills
      rw [pu_isNoE hM.2.2.1.1 hn (by omega), pu_bI, pu_i00]
