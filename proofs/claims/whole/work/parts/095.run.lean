/-! every run of the abstract machine is a run of the machine -/
section RUN
variable {l : Launch} {B b L : Nat} {xs : Nat → Int32} {D : va_G} {ac : FieldType → ClassId} {adK adV : Nat → Nat} {fm : Option Nat} {E : Nat → Option Nat}
theorem am_asc_ent (E : Nat → Option Nat) (n : Nat) : ∀ (As : List Value) (k : Nat), am_asc E k (As.map some ++ List.replicate n none) = lv_args k (As.map (am_cv E))
  | [], k => by
    simp only [List.map_nil, List.nil_append, lv_args]
    induction n generalizing k with
    | zero => rfl
    | succ n ih => rw [List.replicate_succ, am_asc]; exact ih (k + 1)
  | v :: As, k => by
    simp only [List.map_cons, List.cons_append, am_asc, lv_args]
    rw [am_asc_ent E n As (k + 1), if_neg (by rw [am_cv_cat]; decide)]
theorem am_sl_len (E : Nat → Option Nat) : ∀ As : List Value, (lg_sl (As.map (am_cv E))).length = As.length
  | [] => rfl
  | v :: As => by
    have := am_sl_len E As
    unfold lg_sl at this ⊢
    rw [List.map_cons, List.flatMap_cons, if_neg (by rw [am_cv_cat]; decide), List.length_append, this]
    simp
    omega
/-- a method's start -/
def am_Pc (B b L : Nat) (xs : Nat → Int32) (D : va_G) (ac : FieldType → ClassId) (adK adV : Nat → Nat) (fm : Option Nat) (E : Nat → Option Nat) (As : List Value) (G : am_G) (f : am_M) : Array Value → State → Prop :=
  fun v U => v = (As.map (am_cv E)).toArray ∧ am_St B b L xs D ac adK adV fm U ∧ va_P D vwCl (am_ws E ac f G 0) U.heap ∧ U.heap.size = B + G.length
/-- a method's end -/
def am_Qc (B : Nat) (D : va_G) (ac : FieldType → ClassId) (E : Nat → Option Nat) (r : Option Value) (G' : am_G) (f' : am_M) : Array Value → State → Outcome → State → Prop :=
  fun _ st oc t => oc = .returned (r.map (am_cv E)) ∧ va_P D vwCl (am_ws E ac f' G' 0) t.heap ∧ va_F (fun q => B ≤ q) st t
def am_rm (G G' : am_G) (h : Nat) : Room := { frames := h, cells := G'.length - G.length, slots := am_sz G' - am_sz G, locals := 36 * h }
/-- a method's contract, of one run -/
def am_Mt (l : Launch) (B b L : Nat) (xs : Nat → Int32) (D : va_G) (ac : FieldType → ClassId) (adK adV : Nat → Nat) (fm : Option Nat) (E : Nat → Option Nat) (j : Nat) (As : List Value) (G : am_G) (f : am_M) (r : Option Value) (G' : am_G) (f' : am_M) : Prop :=
  Met l (am_y j) (.code (am_y j) (am_by j) (am_m j).2.2.2.1 (am_m j).2.2.2.2.1 :: am_tb) (am_rm G G' (am_m j).2.2.2.2.2) (am_Pc B b L xs D ac adK adV fm E As G f) (am_Qc B D ac E r G' f') (G'.length - G.length) (am_sz G' - am_sz G) (fun q => B ≤ q)
theorem am_blind {As : List Value} {G : am_G} {f : am_M} : FrameBlind (am_Pc B b L xs D ac adK adV fm E As G f) := by
  intro a U g mk ⟨h1, h2, h3, h4⟩
  exact ⟨h1, am_St.same (U := U.calling g mk a) h2 rfl rfl, h3, h4⟩
section CAL
variable {p : Program} {e : Env} {R : Room} {s : State} {m : MethodId} {args : Array Value} {below : List Frame} {meth : Method} {c : Code} {H : Heap} {locs : List Loc} {Q : State → Prop} {cells slots : Nat}
/-- behind a call -/
theorem am_ran {pc : Nat} {LS : Array Slot} {st0 rest : List Value} {a : Array Value} {r : Option Value} {G' : am_G} {f' : am_M} {mc ms : Nat} (hr : va_Run p l e R s m args below meth c H locs cells slots mc ms (F0 m pc LS st0) rest (am_Qc B D ac E r G' f' a) (fun q => B ≤ q)) (hS : va_S (fun q => B ≤ q) s.heap H locs)
    (kk : ∀ (H1 : Heap) (locs1 : List Loc), va_P D vwCl (am_ws E ac f' G' 0) H1 → va_S (fun q => B ≤ q) s.heap H1 locs1 → W p l e R s m args below meth c H1 locs1 (cells + mc) (slots + ms) Q (F0 m (pc + 3) LS ((r.map (am_cv E)).toList ++ rest))) : W p l e R s m args below meth c H locs cells slots Q (F0 m pc LS st0) := by
  intro T hT X
  obtain ⟨v, st₀, t, T', L9, h0, X', hL, e1, e2, ⟨hv, hP, hz, hk⟩, st⟩ := hr T hT X
  cases hv
  rw [h0] at hz hk
  rw [← e1] at hP
  obtain ⟨t2, a1, b1⟩ := kk T'.heap (locs ++ L9) hP
    ⟨Nat.le_trans hS.1 (by rw [e1]; exact hz), fun q h1 h2 => by rw [e1, hk q (Nat.lt_of_lt_of_le h1 hS.1) h2]; exact hS.2.1 q h1 h2, fun q hq => by
      rcases List.mem_append.mp hq with h | h
      · exact hS.2.2 q h
      · exact hL q h⟩ T' rfl X'
  exact ⟨t2, st t2 a1, b1⟩
/-- the heap's size is that of the world -/
theorem am_size {N0 : Nat} {G : am_G} {f : am_M} {cells : Nat} (hE : E = am_E B b adK adV fm) (hsz : s.heap.size = B + N0) (hN : N0 ≤ G.length) (hG : G.length ≤ 1000) (hP : va_P D vwCl (am_ws E ac f G 0) H) (hS : va_S (fun q => B ≤ q) s.heap H locs) (hcl : cells = G.length - N0) (h : H.size ≤ s.heap.size + cells) : H.size = B + G.length := by
  have h1 := hS.1
  by_cases h0 : G.length = 0
  · omega
  · have hlt : G.length - 1 < G.length := by omega
    have hat : (am_ws E ac f G 0)[G.length - 1]? = some (B + (G.length - 1), am_ct E ac f (G.length - 1) G[G.length - 1]) := by
      rw [am_ws_get (q := G[G.length - 1]) (by rw [am_nth_eq]; exact List.getElem?_eq_getElem hlt), hE, am_Ein (by omega)]
      rfl
    have h2 : B + (G.length - 1) < H.size := (hP _ _ hat).lt
    omega
end CAL
end RUN
