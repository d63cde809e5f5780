/-! ===== contracts over a larger world: what a method does not touch stays ===== -/
theorem kPA {D : va_G} {a b : va_W} {H : Heap} (h : va_P D vwCl (a ++ b) H) : va_P D vwCl a H := fun k q hk => h k q (by rw [List.getElem?_append_left (List.getElem?_eq_some_iff.mp hk).1]; exact hk)
theorem kDA {A : Nat → Prop} {a b : va_W} (h : va_D A (a ++ b)) : va_D A a := h.by id (fun k q hk => by show (a ++ b)[k]? = some q; rw [List.getElem?_append_left (List.getElem?_eq_some_iff.mp hk).1]; exact hk) (fun i j _ _ e => e)
theorem kPS {D : va_G} {a b : va_W} {H : Heap} (h : va_P D vwCl (a ++ b) H) : va_P D vwCl (b ++ a) H := by
  have h1 := va_P.swap (a := []) (b := a) (c := b) h
  exact h1
theorem kDS {A : Nat → Prop} {a b : va_W} (h : va_D A (a ++ b)) : va_D A (b ++ a) := by
  have h1 := va_D.swap (a := []) (b := a) (c := b) h
  exact h1
theorem kPB {D : va_G} {a b : va_W} {H : Heap} (h : va_P D vwCl (a ++ b) H) : va_P D vwCl b H := kPA (kPS h)
theorem kDB {A : Nat → Prop} {a b : va_W} (h : va_D A (a ++ b)) : va_D A b := kDA (kDS h)
/-- two worlds apart: no cell of one is a cell of the other -/
theorem kDX {A : Nat → Prop} {a b : va_W} (h : va_D A (a ++ b)) {i j : Nat} {p q : Nat × va_E} (hp : a[i]? = some p) (hq : b[j]? = some q) : p.1 ≠ q.1 := fun e => by
  have hi := (List.getElem?_eq_some_iff.mp hp).1
  have h1 : (a ++ b)[i]? = some p := by rw [List.getElem?_append_left hi]; exact hp
  have h2 : (a ++ b)[a.length + j]? = some q := by rw [List.getElem?_append_right (by omega)]; rw [show a.length + j - a.length = j by omega]; exact hq
  have h3 := h.1 _ _ p q h1 h2 e
  omega
/-- the callee's world first, the rest behind it: the rest, then what came back -/
theorem kJoin {D : va_G} {A : Nat → Prop} {wc wr w1 : va_W} {H H1 : Heap} (hP : va_P D vwCl (wc ++ wr) H) (hD : va_D A (wc ++ wr)) (hF : ∀ q, va_A wc H.size q → A q) (hk : ∀ q : Nat, q < H.size → ¬ va_A wc H.size q → H1[q]? = H[q]?) (hP1 : va_P D vwCl w1 H1) (hD1 : va_D (va_A wc H.size) w1) : va_P D vwCl (wr ++ w1) H1 ∧ va_D A (wr ++ w1) := by
  have hout : ∀ (k : Nat) (q : Nat × va_E), wr[k]? = some q → q.1 < H.size ∧ ¬ va_A wc H.size q.1 := fun k q hk => by
    have hlt := vx_lt (kPB hP) hk
    refine ⟨hlt, fun h => ?_⟩
    rcases h with ⟨i, e, hi⟩ | h
    · exact kDX hD hi hk rfl
    · exact absurd hlt (Nat.not_lt.mpr h)
  refine ⟨va_P.app ((kPB hP).kept fun k q hq => hk q.1 (hout k q hq).1 (hout k q hq).2) hP1, va_D.app (kDB hD) (hD1.weaken fun k q _ h => hF _ h) fun i j p q hp hq e => ?_⟩
  exact (hout i p hp).2 (e ▸ hD1.2 j q hq)
theorem kFre {A : Nat → Prop} {wc wr : va_W} {H0 H : Heap} {locs : List Loc} (hD : va_D A (wc ++ wr)) (hS : va_S A H0 H locs) (hA : ∀ q, H0.size ≤ q → A q) : ∀ q, va_A wc H.size q → A q := fun q h => by
  rcases h with ⟨k, e, h⟩ | h
  · exact (kDA hD).2 k _ h
  · exact hA q (Nat.le_trans hS.1 h)
section KWF
variable {l : Launch} {D : va_G} {TY : List (ClassId × FieldType)} {e0 mi : Nat} {y : MethodName} {ws : List Cond} {fr lo mc ms : Nat} {av : List Value}
theorem kCofR {wc w : va_W} {post : Option Value → Prop} (h : kR l D TY y ws fr lo av wc post) (hs : ∀ H, va_P D vwCl w H → va_P D vwCl wc H) {post' : Option Value → va_W → Prop} (hp : ∀ v, post v → post' v w) : kCx l D TY e0 mi y ws fr lo 0 0 av w post' := fun sz => by
  unfold kR Met at h
  refine MetFree.mono h (fun a s hv => ?_) (fun _ _ _ _ _ h => h) (fun a s o t hv hq => ?_)
  · obtain ⟨h1, ⟨h2, h3, h4, h5⟩, h6⟩ := hv
    exact ⟨h1, hs _ h3, h4⟩
  · obtain ⟨h1, ⟨h2, h3, h4, h5⟩, h6⟩ := hv
    obtain ⟨⟨v, hv, hpv, hh⟩, L, hfe, hL⟩ := hq
    refine ⟨⟨⟨v, w, hv, hp v hpv, by rw [hh]; exact h3, h5.self⟩, ?_⟩, L, hfe, fun z hz => (hL z hz).elim⟩
    exact ⟨by rw [hh]; exact Nat.le_refl _, fun _ _ _ => by rw [hh]⟩
theorem kCtoX {w : va_W} {post : Option Value → va_W → Prop} (h : kC l D TY y ws fr lo mc ms av w post) : kCx l D TY e0 mi y ws fr lo mc ms av w post := fun sz =>
  MetFree.mono (h sz) (fun _ _ hv => ⟨hv.1, hv.2.1⟩) (fun _ _ _ _ _ h => h) (fun _ _ _ _ _ h => h)
theorem kCpost {w : va_W} {post post' : Option Value → va_W → Prop} (h : kCx l D TY e0 mi y ws fr lo mc ms av w post) (hp : ∀ v u, post v u → post' v u) : kCx l D TY e0 mi y ws fr lo mc ms av w post' := fun sz =>
  MetFree.mono (h sz) (fun _ _ hv => hv) (fun _ _ _ _ _ h => h) (fun _ _ _ _ _ h => ⟨by
    obtain ⟨⟨⟨v, w1, a, b, c⟩, f⟩, -⟩ := h
    exact ⟨⟨v, w1, a, hp _ _ b, c⟩, f⟩, h.2⟩)
/-- the frame, whole worlds -/
theorem kCapp {wc wr w : va_W} {post post' : Option Value → va_W → Prop} (h : kCx l D TY e0 mi y ws fr lo mc ms av wc post)
    (hPw : ∀ H, va_P D vwCl w H → va_P D vwCl (wc ++ wr) H) (hDw : ∀ A, va_D A w → va_D A (wc ++ wr)) (hAw : ∀ sz q, va_A wc sz q → va_A w sz q)
    (hp : ∀ v u, post v u → ∃ u', post' v u' ∧ (∀ H, va_P D vwCl (wr ++ u) H → va_P D vwCl u' H) ∧ (∀ A, va_D A (wr ++ u) → va_D A u')) : kCx l D TY e0 mi y ws fr lo mc ms av w post' := fun sz => by
  refine MetFree.mono (h sz) (fun a s hv => ?_) (fun _ _ _ _ _ h => h) (fun a s o t hv hq => ?_)
  · obtain ⟨h1, ⟨h2, h3, h4, h5⟩, h6⟩ := hv
    exact ⟨h1, ⟨h2, kPA (hPw _ h3), h4, kDA (hDw _ h5)⟩, h6.use va_S.rf (hAw sz) (State.WarmedH.refl s) rfl⟩
  · obtain ⟨h1, ⟨h2, h3, h4, h5⟩, h6⟩ := hv
    obtain ⟨⟨⟨v, w1, e1, e2, e3, e4⟩, hz, hk⟩, L, hfe, hL⟩ := hq
    subst h2
    obtain ⟨j1, j2⟩ := kJoin (hPw _ h3) (hDw _ (h5.self (sz := s.heap.size))) (hAw s.heap.size) hk e3 e4
    obtain ⟨u', p1, p2, p3⟩ := hp v w1 e2
    exact ⟨⟨⟨v, u', e1, p1, p2 _ j1, p3 _ j2⟩, hz, fun q h9 hn => hk q h9 fun z => hn (hAw _ q z)⟩, L, hfe, fun z hz => hAw _ _ (hL z hz)⟩
theorem kAsub {wc w : va_W} (is : List Nat) (hs : is.map (fun i => w[i]?) = wc.map some) (sz q : Nat) (h : va_A wc sz q) : va_A w sz q := by
  rcases h with ⟨k, e, h⟩ | h
  · obtain ⟨i, _, h2⟩ := va_in_of is hs h
    exact Or.inl ⟨i, e, h2⟩
  · exact Or.inr h
/-- places in lists without a pool -/
theorem kCfr {w wc : va_W} {post post' : Option Value → va_W → Prop} (h : kCx l D TY e0 mi y ws fr lo mc ms av wc post) (isC isR : List Nat) (hC : isC.map (fun i => w[i]?) = wc.map some) (hR : isR.map (fun i => w[i]?) = (isR.filterMap (fun i => w[i]?)).map some) (hn : va_nd (isC ++ isR) = true)
    (hp : ∀ v u, post v u → ∃ (u' : va_W) (is : List Nat), va_nd is = true ∧ is.map (fun i => ((isR.filterMap (fun i => w[i]?)) ++ u)[i]?) = u'.map some ∧ post' v u') : kCx l D TY e0 mi y ws fr lo mc ms av w post' := by
  have hCR : (isC ++ isR).map (fun i => w[i]?) = (wc ++ (isR.filterMap (fun i => w[i]?))).map some := by rw [List.map_append, List.map_append, hC, hR]
  refine kCapp (wr := (isR.filterMap (fun i => w[i]?))) h (fun H hP => kPc_sub hP _ hCR) (fun A hD => hD.sub _ hn hCR) (kAsub isC hC) (fun v u hv => ?_)
  obtain ⟨u', is, h1, h2, h3⟩ := hp v u hv
  exact ⟨u', h3, fun H hP => kPc_sub hP _ h2, fun A hD => hD.sub _ h1 h2⟩
/-- the pool is the caller's alone -/
theorem kCfrQ {X pl wc : va_W} {post post' : Option Value → va_W → Prop} (h : kCx l D TY e0 mi y ws fr lo mc ms av wc post) (isC isR : List Nat) (hC : isC.map (fun i => X[i]?) = wc.map some) (hR : isR.map (fun i => X[i]?) = (isR.filterMap (fun i => X[i]?)).map some) (hn : va_nd (isC ++ isR) = true)
    (hp : ∀ v u, post v u → ∃ (X' : va_W) (is : List Nat), va_nd is = true ∧ is.map (fun i => ((isR.filterMap (fun i => X[i]?)) ++ u)[i]?) = X'.map some ∧ post' v (X' ++ pl)) : kCx l D TY e0 mi y ws fr lo mc ms av (X ++ pl) post' := by
  have hCR : (isC ++ isR).map (fun i => X[i]?) = (wc ++ (isR.filterMap (fun i => X[i]?))).map some := by rw [List.map_append, List.map_append, hC, hR]
  refine kCapp (wr := (isR.filterMap (fun i => X[i]?)) ++ pl) h (fun H hP => by rw [← List.append_assoc]; exact hP.part _ hCR) (fun A hD => by rw [← List.append_assoc]; exact hD.part _ hn hCR) (fun sz q hq => ?_) (fun v u hv => ?_)
  · rcases kAsub isC hC sz q hq with ⟨k, e, h⟩ | h
    · exact Or.inl ⟨k, e, by rw [List.getElem?_append_left (List.getElem?_eq_some_iff.mp h).1]; exact h⟩
    · exact Or.inr h
  · obtain ⟨X', is, h1, h2, h3⟩ := hp v u hv
    exact ⟨X' ++ pl, h3, fun H hP => va_P.part (va_P.swap hP) is h2, fun A hD => va_D.part (va_D.swap hD) is h1 h2⟩
/-- caller and callee hold the pool -/
theorem kCfrP {X pl cx : va_W} {post post' : Option Value → va_W → Prop} (h : kCx l D TY e0 mi y ws fr lo mc ms av (cx ++ pl) post) (isC isR : List Nat) (hC : isC.map (fun i => X[i]?) = cx.map some) (hR : isR.map (fun i => X[i]?) = (isR.filterMap (fun i => X[i]?)).map some) (hn : va_nd (isC ++ isR) = true)
    (hp : ∀ v u, post v u → ∃ (rx pl1 X' : va_W) (is : List Nat), u = rx ++ pl1 ∧ va_nd is = true ∧ is.map (fun i => ((isR.filterMap (fun i => X[i]?)) ++ rx)[i]?) = X'.map some ∧ post' v (X' ++ pl1)) : kCx l D TY e0 mi y ws fr lo mc ms av (X ++ pl) post' := by
  have hCR : (isC ++ isR).map (fun i => X[i]?) = (cx ++ (isR.filterMap (fun i => X[i]?))).map some := by rw [List.map_append, List.map_append, hC, hR]
  refine kCapp (wr := (isR.filterMap (fun i => X[i]?))) h (fun H hP => va_P.swap (hP.part _ hCR)) (fun A hD => va_D.swap (hD.part _ hn hCR)) (fun sz q hq => ?_) (fun v u hv => ?_)
  · rcases hq with ⟨k, e, h⟩ | h
    · by_cases hk : k < cx.length
      · rw [List.getElem?_append_left hk] at h
        obtain ⟨i, _, h2⟩ := va_in_of isC hC h
        exact Or.inl ⟨i, e, by rw [List.getElem?_append_left (List.getElem?_eq_some_iff.mp h2).1]; exact h2⟩
      · rw [List.getElem?_append_right (by omega)] at h
        exact Or.inl ⟨X.length + (k - cx.length), e, by rw [List.getElem?_append_right (by omega)]; rw [show X.length + (k - cx.length) - X.length = k - cx.length by omega]; exact h⟩
    · exact Or.inr h
  · obtain ⟨rx, pl1, X', is, hu, h1, h2, h3⟩ := hp v u hv
    subst hu
    refine ⟨X' ++ pl1, h3, fun H hP => ?_, fun A hD => ?_⟩
    · rw [← List.append_assoc] at hP
      exact va_P.part hP is h2
    · rw [← List.append_assoc] at hD
      exact va_D.part hD is h1 h2
end KWF
