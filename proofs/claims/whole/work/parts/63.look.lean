/-! look -/
theorem pu_two : ∀ b, b < 64 → ∀ t, t < 6 → ∀ u, u < 6 → ((((nI b >>> (nI t &&& 31)) &&& (nI b >>> (nI u &&& 31))) &&& 1) = 1 ↔ b / 2 ^ t % 2 = 1 ∧ b / 2 ^ u % 2 = 1) := by decide +kernel
theorem pu_bc (f : am_M) (b : Nat) (hb : b < 64) : ∃ v, D_J6_bitCount_0f7a4 (nI b) f = some (v, f) ∧ (v < 2 ↔ nI b &&& (nI b - 1) = 0) := by
  refine ⟨_, rfl, ?_⟩
  revert hb
  revert b
  decide +kernel
theorem pu_nz6 : ∀ b, b < 64 → ¬ nI b &&& (nI b - 1) = 0 → ∃ i, i < 6 ∧ b / 2 ^ i % 2 = 1 := by decide +kernel
/-- how many of a set have the done of one of them -/
def pu_gn (dn : Nat → Nat) (b t : Nat) : Nat → Nat
  | 0 => 0
  | u + 1 => pu_gn dn b t u + if b / 2 ^ t % 2 = 1 ∧ b / 2 ^ u % 2 = 1 ∧ dn t = dn u then 1 else 0
def pu_gg (dn : Nat → Nat) (b n : Nat) : Nat → Nat
  | 0 => 0
  | t + 1 => max (pu_gg dn b n t) (pu_gn dn b t n)
theorem pu_gn_le {dn : Nat → Nat} {b t : Nat} : ∀ u, pu_gn dn b t u ≤ u
  | 0 => Nat.le_refl _
  | u + 1 => by
    have := pu_gn_le (dn := dn) (b := b) (t := t) u
    unfold pu_gn
    split <;> omega
theorem pu_gg_le {dn : Nat → Nat} {b n : Nat} : ∀ t, pu_gg dn b n t ≤ n
  | 0 => Nat.zero_le _
  | t + 1 => by
    have h1 := pu_gg_le (dn := dn) (b := b) (n := n) t
    have h2 := pu_gn_le (dn := dn) (b := b) (t := t) n
    show max _ _ ≤ n
    omega
theorem pu_gn_1 {dn : Nat → Nat} {b t : Nat} (hb : b / 2 ^ t % 2 = 1) : ∀ u, t < u → 1 ≤ pu_gn dn b t u
  | 0, h => absurd h (Nat.not_lt_zero _)
  | u + 1, h => by
    unfold pu_gn
    by_cases e : t = u
    · subst e; rw [if_pos ⟨hb, hb, rfl⟩]; omega
    · have := pu_gn_1 (dn := dn) hb u (by omega)
      omega
theorem pu_gg_1 {dn : Nat → Nat} {b n s : Nat} (hb : b / 2 ^ s % 2 = 1) (hs : s < n) : ∀ t, s < t → 1 ≤ pu_gg dn b n t
  | 0, h => absurd h (Nat.not_lt_zero _)
  | t + 1, h => by
    show 1 ≤ max _ _
    by_cases e : s = t
    · subst e
      have := pu_gn_1 (dn := dn) hb n hs
      omega
    · have := pu_gg_1 (dn := dn) hb hs t (by omega)
      omega
theorem pu_cg21 {f : am_M} {b n g t : Nat} {dn : Nat → Nat} {K : Int32 → Int32 → Int32 → am_M → Option (Int32 × am_M)} (hn : n ≤ 6) (hb : b < 64) (hg : g ≤ 6) (ht : t < n) (h3 : f 3 2 = nI n) (hd : ∀ t, t < n → f 82 t = nI (dn t)) (hdb : ∀ t, t < n → dn t < 2 ^ 30) : ∀ d fu u, u + d = n → d < fu → D_X0_greatestGroup_21 K fu (nI b) (nI g) (nI t) (nI (pu_gn dn b t u)) (nI u) f = K (nI b) (nI (max g (pu_gn dn b t n))) (nI (t + 1)) f
  | d, 0, u, _, h2 => absurd h2 (by omega)
  | 0, fu + 1, u, h1, h2 => by
    have : u = n := by omega
    subst this
    have := pu_gn_le (dn := dn) (b := b) (t := t) u
    rw [D_X0_greatestGroup_21, h3, if_neg (pu_nlt (Nat.le_refl _) (by omega)), pu_max (by omega) (by omega), pu_bI, nI_1]
  | d + 1, fu + 1, u, h1, h2 => by
    have hu : u < n := by omega
    have ih := pu_cg21 (K := K) hn hb hg ht h3 hd hdb d fu (u + 1) (by omega) (by omega)
    have hg2 := pu_gn_le (dn := dn) (b := b) (t := t) u
    have tw := pu_two b hb t (by omega) u (by omega)
    have d1 := hdb t ht
    have d2 := hdb u hu
    rw [D_X0_greatestGroup_21, h3, if_pos (pu_lt hu (by omega)), nI_1 u]
    by_cases hh : b / 2 ^ t % 2 = 1 ∧ b / 2 ^ u % 2 = 1
    · rw [if_pos (tw.mpr hh), pu_chk (by omega) (by decide), pu_chk (by omega) (by decide), nI_clamp (by omega), nI_clamp (by omega), hd t ht, hd u hu, nI_1]
      by_cases e : dn t = dn u
      · rw [show pu_gn dn b t (u + 1) = pu_gn dn b t u + 1 by rw [pu_gn, if_pos ⟨hh.1, hh.2, e⟩]] at ih
        rw [if_pos (by rw [e])]; exact ih
      · rw [show pu_gn dn b t (u + 1) = pu_gn dn b t u by rw [pu_gn, if_neg (fun q => e q.2.2)]; rfl] at ih
        rw [if_neg (pu_ne e (by omega) (by omega))]; exact ih
    · rw [show pu_gn dn b t (u + 1) = pu_gn dn b t u by rw [pu_gn, if_neg (fun q => hh ⟨q.1, q.2.1⟩)]; rfl] at ih
      rw [if_neg (fun q => hh (tw.mp q))]; exact ih
theorem pu_cg4 {f : am_M} {b n : Nat} {dn : Nat → Nat} (hn : n ≤ 6) (hb : b < 64) (h3 : f 3 2 = nI n) (hd : ∀ t, t < n → f 82 t = nI (dn t)) (hdb : ∀ t, t < n → dn t < 2 ^ 30) : ∀ d fu t, t + d = n → d < fu → D_X0_greatestGroup_4 fu (nI b) (nI (pu_gg dn b n t)) (nI t) f = some (nI (pu_gg dn b n n), f)
  | d, 0, t, _, h2 => absurd h2 (by omega)
  | 0, fu + 1, t, h1, h2 => by
    have : t = n := by omega
    subst this
    rw [D_X0_greatestGroup_4, h3, if_neg (pu_nlt (Nat.le_refl _) (by omega))]
  | d + 1, fu + 1, t, h1, h2 => by
    have ht : t < n := by omega
    have hg := pu_gg_le (dn := dn) (b := b) (n := n) t
    have ih := pu_cg4 hn hb h3 hd hdb d fu (t + 1) (by omega) (by omega)
    have x := pu_cg21 (K := fun y1 y2 y3 f9 => D_X0_greatestGroup_4 fu y1 y2 y3 f9) hn hb (by omega : pu_gg dn b n t ≤ 6) ht h3 hd hdb n am_fu 0 (Nat.zero_add _) (by show n < 6000; omega)
    rw [D_X0_greatestGroup_4, h3, if_pos (pu_lt ht (by omega))]
    exact (show D_X0_greatestGroup_21 _ am_fu (nI b) _ (nI t) 0 0 f = _ from x).trans ih
theorem pu_mg20 {f : am_M} {b n g t m : Nat} {dn : Nat → Nat} {K : Int32 → Int32 → Int32 → Int32 → am_M → Option (Int32 × am_M)} (hn : n ≤ 6) (hm : m ≤ 60) (hb : b < 64) (hg : g ≤ 6) (ht : t < n) (h3 : f 91 3 = nI n) (hd : ∀ t, t < n → f 107 (6 * m + t) = nI (dn t)) (hdb : ∀ t, t < n → dn t < 2 ^ 30) : ∀ d fu u, u + d = n → d < fu → D_X8_mostAlike_20 K fu (nI b) (nI m) (nI g) (nI t) (nI (pu_gn dn b t u)) (nI u) f = K (nI b) (nI m) (nI (max g (pu_gn dn b t n))) (nI (t + 1)) f
  | d, 0, u, _, h2 => absurd h2 (by omega)
  | 0, fu + 1, u, h1, h2 => by
    have : u = n := by omega
    subst this
    have hg2 := pu_gn_le (dn := dn) (b := b) (t := t) u
    rw [D_X8_mostAlike_20, h3, if_neg (pu_nlt (Nat.le_refl _) (by omega)), nI_1]
    by_cases e : g < pu_gn dn b t u
    · rw [if_pos (pu_lt e (by omega)), Nat.max_eq_right (by omega)]
    · rw [if_neg (pu_nlt (by omega) (by omega)), Nat.max_eq_left (by omega)]
  | d + 1, fu + 1, u, h1, h2 => by
    have hu : u < n := by omega
    have ih := pu_mg20 (K := K) hn hm hb hg ht h3 hd hdb d fu (u + 1) (by omega) (by omega)
    have hg2 := pu_gn_le (dn := dn) (b := b) (t := t) u
    have d1 := hdb t ht
    have d2 := hdb u hu
    have e0 : nI (pu_gn dn b t u) + 0 = nI (pu_gn dn b t u) := nI_add _ 0
    have e1 : (6 : Int32) * nI m + nI t = nI (6 * m + t) := by rw [← nI_add, ← pu_mul]; rfl
    have e2 : (6 : Int32) * nI m + nI u = nI (6 * m + u) := by rw [← nI_add, ← pu_mul]; rfl
    rw [D_X8_mostAlike_20, h3, if_pos (pu_lt hu (by omega)), pu_has hb (by omega), pu_bI, e0, nI_1 u]
    by_cases ht2 : b / 2 ^ t % 2 = 1
    · rw [ht2, if_neg (show ¬ nI 1 = 0 by decide), pu_has hb (by omega), pu_bI]
      by_cases hu2 : b / 2 ^ u % 2 = 1
      · rw [hu2, if_neg (show ¬ nI 1 = 0 by decide), e1, e2, pu_chk (by omega) (by decide), pu_chk (by omega) (by decide), nI_clamp (by omega), nI_clamp (by omega), hd t ht, hd u hu, nI_1]
        by_cases e : dn t = dn u
        · rw [show pu_gn dn b t (u + 1) = pu_gn dn b t u + 1 by rw [pu_gn, if_pos ⟨ht2, hu2, e⟩]] at ih
          rw [if_pos (by rw [e])]; exact ih
        · rw [show pu_gn dn b t (u + 1) = pu_gn dn b t u by rw [pu_gn, if_neg (fun q => e q.2.2)]; rfl] at ih
          rw [if_neg (pu_ne e (by omega) (by omega))]; exact ih
      · rw [show pu_gn dn b t (u + 1) = pu_gn dn b t u by rw [pu_gn, if_neg (fun q => hu2 q.2.1)]; rfl] at ih
        rw [show b / 2 ^ u % 2 = 0 by omega, if_pos nI_0]; exact ih
    · rw [show pu_gn dn b t (u + 1) = pu_gn dn b t u by rw [pu_gn, if_neg (fun q => ht2 q.1)]; rfl] at ih
      rw [show b / 2 ^ t % 2 = 0 by omega, if_pos nI_0]; exact ih
theorem pu_mg5 {f : am_M} {b n m : Nat} {dn : Nat → Nat} (hn : n ≤ 6) (hm : m ≤ 60) (hb : b < 64) (h3 : f 91 3 = nI n) (hd : ∀ t, t < n → f 107 (6 * m + t) = nI (dn t)) (hdb : ∀ t, t < n → dn t < 2 ^ 30) : ∀ d fu t, t + d = n → d < fu → D_X8_mostAlike_5 fu (nI b) (nI m) (nI (pu_gg dn b n t)) (nI t) f = some (nI (pu_gg dn b n n), f)
  | d, 0, t, _, h2 => absurd h2 (by omega)
  | 0, fu + 1, t, h1, h2 => by
    have : t = n := by omega
    subst this
    rw [D_X8_mostAlike_5, h3, if_neg (pu_nlt (Nat.le_refl _) (by omega))]
  | d + 1, fu + 1, t, h1, h2 => by
    have ht : t < n := by omega
    have hg := pu_gg_le (dn := dn) (b := b) (n := n) t
    have ih := pu_mg5 hn hm hb h3 hd hdb d fu (t + 1) (by omega) (by omega)
    have x := pu_mg20 (K := fun y1 y2 y3 y4 f9 => D_X8_mostAlike_5 fu y1 y2 y3 y4 f9) hn hm hb (by omega : pu_gg dn b n t ≤ 6) ht h3 hd hdb n am_fu 0 (Nat.zero_add _) (by show n < 6000; omega)
    rw [D_X8_mostAlike_5, h3, if_pos (pu_lt ht (by omega))]
    exact (show D_X8_mostAlike_20 _ am_fu (nI b) (nI m) _ (nI t) 0 0 f = _ from x).trans ih
/-- the greatest group at a tick; the best tick so far -/
def pu_G (T : pu_T) (N : pu_S) (b k : Nat) : Nat := pu_gg (pu_dn (pu_Kn T N k).1) b (pu_nt T) (pu_nt T)
def pu_bs (G : Nat → Nat) : Nat → Nat
  | 0 => 0
  | m + 1 => if G (m + 1) < G (pu_bs G m) then m + 1 else pu_bs G m
theorem pu_bs_le {G : Nat → Nat} : ∀ m, pu_bs G m ≤ m
  | 0 => Nat.le_refl _
  | m + 1 => by
    have := pu_bs_le (G := G) m
    unfold pu_bs
    split <;> omega
theorem pu_bs_stop {G : Nat → Nat} (h1 : ∀ k, 1 ≤ G k) {m : Nat} (h : G (pu_bs G m) ≤ 1) : ∀ d, pu_bs G (m + d) = pu_bs G m
  | 0 => rfl
  | d + 1 => by
    have ih := pu_bs_stop h1 h d
    have := h1 (m + d + 1)
    show (if G (m + d + 1) < G (pu_bs G (m + d)) then m + d + 1 else pu_bs G (m + d)) = _
    rw [ih, if_neg (by omega)]
section LK
variable {T : pu_T} {N : pu_S} {b : Nat}
theorem pu_cGroup {f : am_M} {k : Nat} (hT : pu_Tok T) (hk : k ≤ 60) (hb : b < 64) (h3 : pu_Tc T (f 3) (f 4) (f 5) (f 6)) (h : pu_KC T N k f) : D_X0_greatestGroup (nI b) f = some (nI (pu_G T N b k), f) := by
  have hn := hT.2.2.1
  obtain ⟨u, hu, hF, _⟩ := h
  exact pu_cg4 hn hb h3.2.2.1 (fun t ht => hF.2.2.2.1 t (by omega)) (fun t ht => by have := hu.1.dn ht; omega) (pu_nt T) am_fu 0 (Nat.zero_add _) (by show pu_nt T < 6000; omega)
theorem pu_mGroup {f : am_M} {k : Nat} (hT : pu_Tok T) (hS : pu_Sok T N) (hk : k ≤ 60) (hb : b < 64) (h3 : f 91 3 = nI (pu_nt T)) (h : pu_KH T N 61 f) : D_X8_mostAlike (nI b) (nI k) f = some (nI (pu_G T N b k), f) := by
  have hn := hT.2.2.1
  obtain ⟨u, hu⟩ := pu_Kn_ok hT hS k
  exact pu_mg5 hn hk hb h3 (h k (by omega)).2.2.1 (fun t ht => by have := hu.1.dn ht; omega) (pu_nt T) am_fu 0 (Nat.zero_add _) (by show pu_nt T < 6000; omega)
theorem pu_G6 (hT : pu_Tok T) (k : Nat) : pu_G T N b k ≤ 6 := Nat.le_trans (pu_gg_le _) hT.2.2.1
theorem pu_ml20 {f : am_M} (hT : pu_Tok T) (hS : pu_Sok T N) (hb : b < 64) (h3 : f 91 3 = nI (pu_nt T)) (h : pu_KH T N 61 f) : ∀ d fu m, m + d = 60 → d < fu → D_X8_look_20 fu (nI b) (nI (pu_bs (pu_G T N b) m)) (nI (m + 1)) f = some (nI (pu_bs (pu_G T N b) 60), f)
  | d, 0, m, _, h2 => absurd h2 (by omega)
  | 0, fu + 1, m, h1, h2 => by
    have : m = 60 := by omega
    subst this
    rw [D_X8_look_20, if_pos (show (60 : Int32) < nI (60 + 1) by decide)]
  | d + 1, fu + 1, m, h1, h2 => by
    have ih := pu_ml20 hT hS hb h3 h d fu (m + 1) (by omega) (by omega)
    have hbs := pu_bs_le (G := pu_G T N b) m
    have g1 := pu_G6 (N := N) (b := b) hT (m + 1)
    have g2 := pu_G6 (N := N) (b := b) hT (pu_bs (pu_G T N b) m)
    rw [D_X8_look_20, if_neg (show ¬ (60 : Int32) < nI (m + 1) from pu_nlt (a := 60) (by omega) (by decide)), pu_mGroup hT hS (by omega) hb h3 h, pu_bI, pu_mGroup hT hS (by omega) hb h3 h, pu_bI, nI_1]
    by_cases e : pu_G T N b (m + 1) < pu_G T N b (pu_bs (pu_G T N b) m)
    · rw [show pu_bs (pu_G T N b) (m + 1) = m + 1 by rw [pu_bs, if_pos e]] at ih
      rw [if_pos (pu_lt e (by omega))]; exact ih
    · rw [show pu_bs (pu_G T N b) (m + 1) = pu_bs (pu_G T N b) m by rw [pu_bs, if_neg e]] at ih
      rw [if_neg (pu_nlt (by omega) (by omega))]; exact ih
theorem pu_c14 (hT : pu_Tok T) (hb : b < 64) (hG : ∀ k, 1 ≤ pu_G T N b k) : ∀ d fu i a w (f : am_M), i + d = 61 → d < fu → pu_Tc T (f 3) (f 4) (f 5) (f 6) → pu_Kst0 T N i f → (i = 0 ∧ a = 0 ∧ w = 7 ∨ ∃ j, i = j + 1 ∧ a = pu_bs (pu_G T N b) j ∧ w = pu_G T N b (pu_bs (pu_G T N b) j)) → ∃ f', D_X0_ticksThatPart_14 fu (nI b) (nI a) (nI w) (nI i) f = some (nI (pu_bs (pu_G T N b) 60), f') ∧ (∀ q, q < 80 ∨ 87 < q → f' q = f q)
  | d, 0, i, a, w, f, _, h, _, _, _ => absurd h (by omega)
  | 0, fu + 1, i, a, w, f, h1, h2, h3, hK, hA => by
    have : i = 61 := by omega
    subst this
    rcases hA with ⟨q, _, _⟩ | ⟨j, q, rfl, rfl⟩
    · exact absurd q (by decide)
    have : j = 60 := by omega
    subst this
    refine ⟨f, ?_, fun _ _ => rfl⟩
    rw [D_X0_ticksThatPart_14, if_pos (show (60 : Int32) < nI 61 by decide)]
  | d + 1, fu + 1, i, a, w, f, h1, h2, h3, hK, hA => by
    have e60 : ¬ (60 : Int32) < nI i := pu_nlt (a := 60) (by omega) (by decide)
    have hw : w ≤ 7 := by
      rcases hA with ⟨_, _, rfl⟩ | ⟨j, _, _, rfl⟩
      · exact Nat.le_refl _
      · have := pu_G6 (N := N) (b := b) hT (pu_bs (pu_G T N b) j); omega
    by_cases hw1 : 1 < w
    · have ew : (1 : Int32) < nI w := pu_lt (a := 1) hw1 (by omega)
      have g1 := pu_G6 (N := N) (b := b) hT i
      obtain ⟨f1, x1, x2, x3⟩ := pu_cNext hT (by omega) h3 hK
      have h3' : pu_Tc T (f1 3) (f1 4) (f1 5) (f1 6) := pu_frT (fun q a b => x2 q (by omega)) h3
      have go : ∀ a' w', (i + 1 = 0 ∧ a' = 0 ∧ w' = 7 ∨ ∃ j, i + 1 = j + 1 ∧ a' = pu_bs (pu_G T N b) j ∧ w' = pu_G T N b (pu_bs (pu_G T N b) j)) → (if nI (pu_G T N b i) < nI w then D_X0_ticksThatPart_14 fu (nI b) (nI i) (nI (pu_G T N b i)) (nI (i + 1)) f1 else D_X0_ticksThatPart_14 fu (nI b) (nI a) (nI w) (nI (i + 1)) f1) = D_X0_ticksThatPart_14 fu (nI b) (nI a') (nI w') (nI (i + 1)) f1 → ∃ f', D_X0_ticksThatPart_14 (fu + 1) (nI b) (nI a) (nI w) (nI i) f = some (nI (pu_bs (pu_G T N b) 60), f') ∧ (∀ q, q < 80 ∨ 87 < q → f' q = f q) := fun a' w' hA' he => by
        obtain ⟨f', y1, y2⟩ := pu_c14 hT hb hG d fu (i + 1) a' w' f1 (by omega) (by omega) h3' (Or.inr ⟨i, rfl, x3⟩) hA'
        refine ⟨f', ?_, fun q hq => by rw [y2 q hq, x2 q hq]⟩
        rw [D_X0_ticksThatPart_14, if_neg e60, if_pos ew]
        refine (x1 _).trans ?_
        rw [pu_cGroup hT (by omega) hb h3' x3, pu_bI, nI_1]
        exact he.trans y1
      rcases hA with ⟨rfl, rfl, rfl⟩ | ⟨j, rfl, rfl, rfl⟩
      · exact go 0 (pu_G T N b 0) (Or.inr ⟨0, rfl, rfl, rfl⟩) (if_pos (pu_lt (by omega) (by omega)))
      · by_cases e : pu_G T N b (j + 1) < pu_G T N b (pu_bs (pu_G T N b) j)
        · have eb : pu_bs (pu_G T N b) (j + 1) = j + 1 := by rw [pu_bs, if_pos e]
          exact go (j + 1) (pu_G T N b (j + 1)) (Or.inr ⟨j + 1, rfl, eb.symm, by rw [eb]⟩) (if_pos (pu_lt e (by omega)))
        · have eb : pu_bs (pu_G T N b) (j + 1) = pu_bs (pu_G T N b) j := by rw [pu_bs, if_neg e]
          exact go _ _ (Or.inr ⟨j + 1, rfl, eb.symm, by rw [eb]⟩) (if_neg (pu_nlt (by omega) (by omega)))
    · rcases hA with ⟨rfl, rfl, rfl⟩ | ⟨j, rfl, rfl, rfl⟩
      · exact absurd (by decide) hw1
      refine ⟨f, ?_, fun _ _ => rfl⟩
      have hs := pu_bs_stop (G := pu_G T N b) hG (m := j) (by omega) (60 - j)
      rw [show j + (60 - j) = 60 by omega] at hs
      rw [D_X0_ticksThatPart_14, if_neg e60, if_neg (show ¬ (1 : Int32) < nI (pu_G T N b (pu_bs (pu_G T N b) j)) from pu_nlt (a := 1) (by omega) (by decide)), hs]
end LK
theorem pu_look {f : am_M} (h : pu_R f) : pu_Go D_X7_look D_X8_look f := by
  obtain ⟨T, X, N, P, I0, I1, Z, hV, hC, hM⟩ := id h
  have hT := hV.1
  have hS := hV.2.2.1
  have hZ : pu_Zok Z := hV.2.2.2.2.2.2
  obtain ⟨b, f1, x0, x1, x2, x3⟩ := pu_cSeen hT hS hZ hC.1 hC.2.2.2.2.2 hC.2.2.1.1
  obtain ⟨v, v1, v2⟩ := pu_bc f1 b x0
  have hC1 := hC.cs x2
  by_cases hz : nI b &&& (nI b - 1) = 0
  · refine pu_join (r := -9) hV (f1 := f1) ?_ (fun q hq => x2 q (by omega)) hC1 hM (fun g hg => ?_)
    · unfold D_X7_look
      rw [x1, pu_bI, v1, pu_bI, if_pos (v2.mpr hz)]
    · obtain ⟨c, g1, y0, y1, y2, y3, y4⟩ := pu_mSeen hT hS hZ hg.1 hg.2.2.1 hg.2.2.2.2.2
      have e : b = c := pu_bitsEq b x0 c y0 (fun i hi => (x3 i hi).trans (y4 i hi).symm)
      subst e
      refine ⟨g1, ?_, y2.hi, y2.M hg⟩
      unfold D_X8_look
      rw [y1, pu_bI, if_pos hz]
  · obtain ⟨s, hs, hbit⟩ := pu_nz6 b x0 hz
    have hsn := ((x3 s hs).mp hbit).1
    have hG : ∀ k, 1 ≤ pu_G T N b k := fun k => pu_gg_1 hbit hsn _ hsn
    obtain ⟨f2, w1, w2, w3⟩ := pu_cStart hT hS hC1.2.2.1.1
    obtain ⟨f3, z1, z2⟩ := pu_c14 hT x0 hG 61 am_fu 0 0 7 f2 (Nat.zero_add _) (by decide) (pu_frT (fun q a b => w2 q (by omega)) hC1.1) (Or.inl ⟨rfl, w3⟩) (Or.inl ⟨rfl, rfl, rfl⟩)
    have fr : ∀ q, q < 80 ∨ 87 < q → f3 q = f q := fun q hq => by rw [z2 q hq, w2 q hq, x2 q hq]
    refine pu_join (r := nI (pu_bs (pu_G T N b) 60)) hV (f1 := f3) ?_ (fun q hq => fr q (by omega)) (hC.cs fr) hM (fun g hg => ?_)
    · unfold D_X7_look D_X0_ticksThatPart
      rw [x1, pu_bI, v1, pu_bI, if_neg (fun q => hz (v2.mp q)), w1, pu_bV, show D_X0_ticksThatPart_14 am_fu (nI b) 0 7 0 f2 = _ from z1, pu_bI]
    · obtain ⟨c, g1, y0, y1, y2, y3, y4⟩ := pu_mSeen hT hS hZ hg.1 hg.2.2.1 hg.2.2.2.2.2
      have e : b = c := pu_bitsEq b x0 c y0 (fun i hi => (x3 i hi).trans (y4 i hi).symm)
      subst e
      refine ⟨g1, ?_, y2.hi, y2.M hg⟩
      unfold D_X8_look
      rw [y1, pu_bI, if_neg hz]
      exact pu_ml20 hT hS x0 (y2.T hg.1).2.2.1 y3 60 am_fu 0 (Nat.zero_add _) (by decide)
