/-! the course by rule: what it is, apart from both sides -/
/-- what holds in a course but stability; B bounds what is claimed and wanted, u is the cursor -/
def pu_Ko0 (T : pu_T) (B u : Nat) (S : pu_S) : Prop := pu_cl S + pu_sw (pu_rw S) ≤ B ∧ pu_Rok T (pu_rw S) ∧ (∀ t, t < pu_nt T → pu_dn S t ≤ u ∧ ∀ w, w < t → pu_bit (pu_bh T t) w → pu_dn S t ≤ pu_dn S w) ∧ u ≤ pu_cl S ∧ pu_cl S ≤ pu_sl T + pu_lst T S
def pu_Kst (T : pu_T) (S : pu_S) : Prop := ∀ m n r, pu_rw S = (m, n) :: r → pu_sl T + pu_lst T S < pu_cl S + n
def pu_Kok (T : pu_T) (B u : Nat) (S : pu_S) : Prop := pu_Ko0 T B u S ∧ pu_Kst T S
/-- a maker's turn -/
def pu_Kmk (T : pu_T) (S : pu_S) (m : Nat) : pu_S :=
  if pu_ra T m = 0 then S else if pu_ix (pu_rw S) m ≠ none then S else if pu_rw S = [] ∧ pu_ra T m ≤ pu_ro T S then pu_cm S m (pu_ra T m) else pu_sr S (pu_rw S ++ [(m, pu_ra T m)])
def pu_td (S : pu_S) (t v : Nat) : pu_S := (S.1, S.2.1, pu_un (pu_dn S) t v, S.2.2.2.1, S.2.2.2.2.1, S.2.2.2.2.2)
/-- how far a taker may go in a course -/
def pu_Kam (T : pu_T) (u : Nat) (S : pu_S) (t : Nat) : Nat := match pu_so (pu_dn S) (pu_bh T t) (pu_nt T) with
  | none => u
  | some s => pu_dn S s
def pu_Kv (T : pu_T) (u : Nat) (S : pu_S) (t : Nat) : Nat := min (pu_dn S t + pu_sp T t) (pu_Kam T u S t)
/-- a taker's turn -/
def pu_Ktk (T : pu_T) (u : Nat) (S : pu_S) (t : Nat) : pu_S := if pu_dn S t < pu_Kv T u S t then pu_ad T 3 (pu_td S t (pu_Kv T u S t)) else S
section KK
variable {T : pu_T} {B u : Nat} {S : pu_S}
theorem pu_Kok.mk (hT : pu_Tok T) (h : pu_Kok T B u S) {m : Nat} (hm : m < pu_nm T) : pu_Kok T (B + 9) u (pu_Kmk T S m) := by
  obtain ⟨⟨s1, s2, s3, s4, s5⟩, s6⟩ := id h
  have hr9 := hT.2.2.2.1 m hm
  have up : pu_Kok T (B + 9) u S := ⟨⟨by omega, s2, s3, s4, s5⟩, s6⟩
  unfold pu_Kmk
  by_cases h0 : pu_ra T m = 0
  · rw [if_pos h0]; exact up
  rw [if_neg h0]
  by_cases hx : pu_ix (pu_rw S) m ≠ none
  · rw [if_pos hx]; exact up
  rw [if_neg hx]
  have hx : pu_ix (pu_rw S) m = none := Classical.not_not.mp hx
  have hne := (pu_ix_none _ _ hx).2
  by_cases hc : pu_rw S = [] ∧ pu_ra T m ≤ pu_ro T S
  · rw [if_pos hc]
    obtain ⟨hr, hro⟩ := hc
    rw [hr] at s1
    have s1 : pu_cl S + 0 ≤ B := s1
    have h1 : pu_lst T S ≤ pu_lst T (pu_cm S m (pu_ra T m)) := pu_le_mono (dn := pu_dn S) (show pu_cl S ≤ pu_cl S + pu_ra T m by omega) (pu_nt T)
    refine ⟨⟨?_, s2, s3, ?_, ?_⟩, fun m' n' r' hh => ?_⟩
    · show pu_cl S + pu_ra T m + pu_sw (pu_rw S) ≤ B + 9
      rw [hr]; show pu_cl S + pu_ra T m + 0 ≤ B + 9; omega
    · show u ≤ pu_cl S + pu_ra T m; omega
    · unfold pu_ro at hro
      show pu_cl S + pu_ra T m ≤ _
      omega
    · have hh : pu_rw S = (m', n') :: r' := hh
      rw [hr] at hh; simp at hh
  · rw [if_neg hc]
    refine ⟨⟨?_, ⟨fun q hq => ?_, ?_⟩, s3, s4, s5⟩, fun m' n' r' hh => ?_⟩
    · show pu_cl S + pu_sw (pu_rw S ++ [(m, pu_ra T m)]) ≤ B + 9
      rw [pu_sw_ap]; omega
    · rcases List.mem_append.mp (show q ∈ pu_rw S ++ [(m, pu_ra T m)] from hq) with h | h
      · exact s2.1 q h
      · simp at h; subst h; exact ⟨hm, by show 1 ≤ pu_ra T m; omega, hr9⟩
    · show ((pu_rw S ++ [(m, pu_ra T m)]).map Prod.fst).Nodup
      rw [List.map_append, List.nodup_append]
      refine ⟨s2.2, by simp, fun a ha b hb => ?_⟩
      simp at hb
      subst hb
      obtain ⟨q, hq, rfl⟩ := List.mem_map.mp ha
      exact hne q hq
    · have h' : pu_rw S ++ [(m, pu_ra T m)] = (m', n') :: r' := hh
      show pu_sl T + pu_lst T S < pu_cl S + n'
      cases hr : pu_rw S with
      | nil =>
        rw [hr] at h'
        simp at h'
        have : ¬ pu_ra T m ≤ pu_ro T S := fun q => hc ⟨hr, q⟩
        unfold pu_ro at this
        omega
      | cons x r =>
        rw [hr] at h'
        simp at h'
        exact s6 m' n' r (by rw [hr, h'.1])
theorem pu_Ko0.cm (h : pu_Ko0 T B u S) {m n : Nat} {r : List (Nat × Nat)} (hr : pu_rw S = (m, n) :: r) (hn : n ≤ pu_ro T S) : pu_Ko0 T B u (pu_cm (pu_sr S r) m n) := by
  obtain ⟨s1, s2, s3, s4, s5⟩ := h
  rw [hr, pu_sw_c] at s1
  have h1 : pu_lst T S ≤ pu_lst T (pu_cm (pu_sr S r) m n) := pu_le_mono (dn := pu_dn S) (show pu_cl S ≤ pu_cl S + n by omega) (pu_nt T)
  refine ⟨by show pu_cl S + n + pu_sw r ≤ B; omega, ⟨fun q hq => s2.1 q (by rw [hr]; exact List.mem_cons_of_mem _ hq), by have := s2.2; rw [hr] at this; simp at this; exact this.2⟩, s3, by show u ≤ pu_cl S + n; omega, ?_⟩
  unfold pu_ro at hn
  show pu_cl S + n ≤ _
  omega
theorem pu_Kad_id (h : pu_Kok T B u S) (k : Nat) : pu_ad T k S = S := by
  cases hr : pu_rw S with
  | nil => exact pu_ad_nil k hr
  | cons x r =>
    obtain ⟨m, n⟩ := x
    have h1 := h.2 m n r hr
    have h2 := h.1.2.2.2.2
    exact pu_ad_lt k hr (by unfold pu_ro; omega)
end KK
theorem pu_Kad_ok {T : pu_T} {B u : Nat} : ∀ (k : Nat) (S : pu_S), (pu_rw S).length ≤ k → pu_Ko0 T B u S → pu_Kok T B u (pu_ad T k S)
  | k, S, hk, hS => by
    cases hr : pu_rw S with
    | nil =>
      rw [pu_ad_nil k hr]
      exact ⟨hS, fun m n r h => by rw [hr] at h; simp at h⟩
    | cons x r =>
      obtain ⟨m, n⟩ := x
      by_cases hlt : pu_ro T S < n
      · rw [pu_ad_lt k hr hlt]
        refine ⟨hS, fun m' n' r' h => ?_⟩
        rw [hr] at h
        simp at h
        unfold pu_ro at hlt
        omega
      · cases k with
        | zero => rw [hr] at hk; simp at hk
        | succ k =>
          rw [pu_ad_go k hr hlt]
          exact pu_Kad_ok k (pu_cm (pu_sr S r) m n) (by rw [hr] at hk; show r.length ≤ k; simpa using hk) (hS.cm hr (by omega))
section KT
variable {T : pu_T} {B u : Nat} {S : pu_S}
theorem pu_Kam_u (h : pu_Ko0 T B u S) (t : Nat) : pu_Kam T u S t ≤ u := by
  unfold pu_Kam
  cases hs : pu_so (pu_dn S) (pu_bh T t) (pu_nt T) with
  | none => exact Nat.le_refl _
  | some s => exact (h.2.2.1 s (pu_so_lt _ _ hs).1).1
theorem pu_Kam_dn (hT : pu_Tok T) (h : pu_Ko0 T B u S) {t : Nat} (ht : t < pu_nt T) : pu_dn S t ≤ pu_Kam T u S t := by
  unfold pu_Kam
  cases hs : pu_so (pu_dn S) (pu_bh T t) (pu_nt T) with
  | none => exact (h.2.2.1 t ht).1
  | some s =>
    obtain ⟨h1, h2⟩ := pu_so_lt _ _ hs
    exact (h.2.2.1 t ht).2 s (pu_bit_lt (hT.2.2.2.2 t ht).2.2 h2) h2
theorem pu_Ko0.td (h : pu_Ko0 T B u S) {t v : Nat} (ht : t < pu_nt T) (h1 : pu_dn S t ≤ v) (h2 : v ≤ pu_Kam T u S t) : pu_Ko0 T B u (pu_td S t v) := by
  obtain ⟨s1, s2, s3, s4, s5⟩ := id h
  have ha := pu_Kam_u h t
  have hdn : ∀ w, pu_dn S w ≤ pu_dn (pu_td S t v) w := fun w => by
    show _ ≤ pu_un (pu_dn S) t v w
    unfold pu_un
    by_cases e : w = t
    · rw [if_pos e, e]; exact h1
    · rw [if_neg e]; exact Nat.le_refl _
  refine ⟨s1, s2, fun w hw => ⟨?_, fun x hx hb => ?_⟩, s4, ?_⟩
  · show pu_un (pu_dn S) t v w ≤ _
    unfold pu_un
    by_cases e : w = t
    · rw [if_pos e]; omega
    · rw [if_neg e]; exact (s3 w hw).1
  · have h3 := hdn x
    by_cases e : w = t
    · subst e
      show pu_un (pu_dn S) w v w ≤ pu_un (pu_dn S) w v x
      unfold pu_un
      rw [if_pos rfl, if_neg (by omega)]
      unfold pu_Kam at h2
      cases hs : pu_so (pu_dn S) (pu_bh T w) (pu_nt T) with
      | none => exact absurd hs (pu_so_ex hb _ (by omega))
      | some s =>
        rw [hs] at h2
        have h2 : v ≤ pu_dn S s := h2
        have := pu_so_min _ _ hs x (by omega) hb
        omega
    · have h4 := (s3 w hw).2 x hx hb
      show pu_un (pu_dn S) t v w ≤ _
      rw [show pu_un (pu_dn S) t v w = pu_dn S w by unfold pu_un; rw [if_neg e]]
      omega
  · have h1 : pu_lst T S ≤ pu_lst T (pu_td S t v) := pu_le_dmono (c := pu_cl S) hdn (pu_nt T)
    show pu_cl S ≤ _
    omega
theorem pu_Kok.len (hT : pu_Tok T) (h : pu_Ko0 T B u S) : (pu_rw S).length ≤ 3 := pu_len hT.2.1 (fun q hq => (h.2.1.1 q hq).1) h.2.1.2
theorem pu_Kok.tk (hT : pu_Tok T) (h : pu_Kok T B u S) {t : Nat} (ht : t < pu_nt T) : pu_Kok T B u (pu_Ktk T u S t) := by
  unfold pu_Ktk
  by_cases hv : pu_dn S t < pu_Kv T u S t
  · rw [if_pos hv]
    exact pu_Kad_ok 3 _ (show (pu_rw S).length ≤ 3 from pu_Kok.len hT h.1) (h.1.td ht (by omega) (by unfold pu_Kv; omega))
  · rw [if_neg hv]; exact h
/-- the model goes there too where nothing moves -/
theorem pu_Ktk_eq (hT : pu_Tok T) (h : pu_Kok T B u S) {t : Nat} (ht : t < pu_nt T) : pu_Ktk T u S t = pu_ad T 3 (pu_td S t (pu_Kv T u S t)) := by
  unfold pu_Ktk
  by_cases hv : pu_dn S t < pu_Kv T u S t
  · rw [if_pos hv]
  · rw [if_neg hv]
    have h1 := pu_Kam_dn hT h.1 ht
    have e : pu_Kv T u S t = pu_dn S t := by unfold pu_Kv at hv ⊢; omega
    have e2 : pu_td S t (pu_Kv T u S t) = S := by
      rw [e]
      show (S.1, S.2.1, pu_un (pu_dn S) t (pu_dn S t), S.2.2.2.1, S.2.2.2.2.1, S.2.2.2.2.2) = S
      have : pu_un (pu_dn S) t (pu_dn S t) = S.2.2.1 := by
        funext i
        unfold pu_un
        by_cases q : i = t
        · rw [if_pos q, q]; rfl
        · rw [if_neg q]; rfl
      rw [this]
    rw [e2, pu_Kad_id h 3]
end KT
