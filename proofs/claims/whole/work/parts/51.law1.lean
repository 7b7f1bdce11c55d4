theorem ma {a a2 f f2 : va_W} (h : a.map (fun q => q.1) = a2.map (fun q => q.1)) (h2 : f.map (fun q => q.1) = f2.map (fun q => q.1)) : (a ++ f).map (fun q => q.1) = (a2 ++ f2).map (fun q => q.1) := by rw [List.map_append, List.map_append, h, h2]
theorem fresh_of {wc w1 : va_W} {sz : Nat} (h : va_D (va_A wc sz) w1) (j : Nat) {q : Nat × va_E} (hj : w1[j]? = some q) (hpre : wc.map (fun q => q.1) = (w1.take wc.length).map (fun q => q.1)) (hlen : wc.length ≤ j) : sz ≤ q.1 := by
  rcases h.2 j q hj with ⟨k, e, hk⟩ | h1
  · have hkl : k < wc.length := (List.getElem?_eq_some_iff.mp hk).1
    have e1 : (wc.map (fun q => q.1))[k]? = some q.1 := by rw [List.getElem?_map, hk]; rfl
    rw [hpre, List.getElem?_map, List.getElem?_take_of_lt hkl] at e1
    cases hw : w1[k]? with
    | none => rw [hw] at e1; cases e1
    | some z =>
      rw [hw] at e1
      have := h.1 k j z q hw hj (Option.some.inj e1)
      omega
  · exact h1
theorem va_D_mid {A : Nat → Prop} {a f g : va_W} (h : va_D A (a ++ (f ++ g))) : va_D A (a ++ g) := by
  have key : ∀ (k : Nat) (q : Nat × va_E), (a ++ g)[k]? = some q → (a ++ (f ++ g))[if k < a.length then k else k + f.length]? = some q := by
    intro k q hk
    by_cases hl : k < a.length
    · rw [if_pos hl, List.getElem?_append_left hl]
      rw [List.getElem?_append_left hl] at hk
      exact hk
    · rw [if_neg hl, List.getElem?_append_right (by omega), List.getElem?_append_right (by omega)]
      rw [List.getElem?_append_right (by omega)] at hk
      rw [show k + f.length - a.length - f.length = k - a.length by omega]
      exact hk
  refine ⟨fun i j p q hi hj he => ?_, fun k q hk => h.2 _ q (key k q hk)⟩
  have := h.1 _ _ p q (key i p hi) (key j q hj) he
  by_cases h1 : i < a.length <;> by_cases h2 : j < a.length <;> simp only [h1, h2, if_true, if_false] at this <;> omega
theorem va_P_mid {D : va_G} {a f g : va_W} {H : Heap} (h : va_P D vwCl (a ++ (f ++ g)) H) : va_P D vwCl (a ++ g) H := (va_P_left h).app (va_P_right (va_P_right h))
theorem ap_mem {A : Nat → Prop} {a f g : va_W} (h : va_D A (a ++ (f ++ g))) : ∀ q ∈ f, ∀ (k : Nat) (e : va_E), (a ++ g)[k]? ≠ some (q.1, e) := by
  intro q hq k e hk
  obtain ⟨j, hj⟩ := List.mem_iff_getElem?.mp hq
  have hjl := (List.getElem?_eq_some_iff.mp hj).1
  have h2 : (a ++ (f ++ g))[a.length + j]? = some q := by rw [List.getElem?_append_right (Nat.le_add_right _ _), Nat.add_sub_cancel_left, List.getElem?_append_left hjl]; exact hj
  by_cases hl : k < a.length
  · have h1 : (a ++ (f ++ g))[k]? = some (q.1, e) := by
      rw [List.getElem?_append_left hl]
      rw [List.getElem?_append_left hl] at hk
      exact hk
    have := h.1 k (a.length + j) (q.1, e) q h1 h2 rfl
    omega
  · have h1 : (a ++ (f ++ g))[k + f.length]? = some (q.1, e) := by
      rw [List.getElem?_append_right (by omega), List.getElem?_append_right (by omega)]
      rw [List.getElem?_append_right (by omega)] at hk
      rw [show k + f.length - a.length - f.length = k - a.length by omega]
      exact hk
    have := h.1 (k + f.length) (a.length + j) (q.1, e) q h1 h2 rfl
    omega
theorem Fr_sub {D : va_G} {ws fr fr2 : va_W} {H : Heap} (h : Fr D ws fr H) (hs : ∀ q ∈ fr2, q ∈ fr) : Fr D ws fr2 H :=
  ⟨fun k q hk => by obtain ⟨j, hj⟩ := List.mem_iff_getElem?.mp (hs q (List.mem_of_getElem? hk)); exact h.1 j q hj, fun q hq => h.2 q (hs q hq)⟩
section LAW1
variable {D : va_G} {C : Nat → ClassId} {s : State} {ax am : Nat → Nat} {H H1 : Heap} {locs locs1 : List Loc} {x x2 : SX} {b b2 : BF} {y : SM} {t0 t1 u0 u1 : SS}
theorem HLS_u0 (h : HLS D C s ax am H locs x b y t0 t1) {wc : va_W} (isC : List Nat) (hC : isC.map (fun i => (wLs C ax am x y ++ SLc C t0)[i]?) = wc.map some) (hP : va_P D vwCl (wLs C ax am x2 y ++ SLc C u0) H1) (ha : (SLc C u0).map (fun q => q.1) = (SLc C t0).map (fun q => q.1))
    (hS : va_S (fun q : Nat => s.heap.size ≤ q) s.heap H1 locs1) (hk : ∀ q : Nat, q < H.size → ¬ va_A wc H.size q → H1[q]? = H[q]?) (hsub : ∀ q ∈ FRb x2 b2 u0 t1, q ∈ FRb x b t0 t1) (hs0 : X_o_slots x2 0 = u0.map (fun z => z.1)) (hs1 : X_o_slots x2 1 = t1.map (fun z => z.1)) : HLS D C s ax am H1 locs1 x2 b2 y u0 t1 := by
  obtain ⟨h1, h2, h3, h4, h5, h6⟩ := h
  rw [show wLs C ax am x y ++ FRs C t0 t1 = (wLs C ax am x y ++ SLc C t0) ++ SLc C t1 from (List.append_assoc _ _ _).symm] at h1 h2 h3
  have e0 : ((wLs C ax am x2 y ++ SLc C u0) ++ SLc C t1).map (fun q => q.1) = ((wLs C ax am x y ++ SLc C t0) ++ SLc C t1).map (fun q => q.1) := by
    rw [List.map_append, List.map_append, List.map_append, List.map_append, ha]
    rfl
  have hF : Fr D (wLs C ax am x y ++ SLc C t0) (SLc C t1) H := ⟨va_P_right h1, va_D_apart h2⟩
  have hF1 := Fr_keep hF isC hC hk
  have hB := Fr_sub h3 hsub
  have hB1 := Fr_keep hB isC (pl_left isC hC) hk
  unfold HLS
  rw [show wLs C ax am x2 y ++ FRs C u0 t1 = (wLs C ax am x2 y ++ SLc C u0) ++ SLc C t1 from (List.append_assoc _ _ _).symm]
  exact ⟨hP.app hF1, va_D_same h2 e0, Fr_same hB hB1 e0, hS, hs0, hs1⟩
theorem HLS_u1 (h : HLS D C s ax am H locs x b y t0 t1) {wc : va_W} (isC : List Nat) (hC : isC.map (fun i => (wLs C ax am x y ++ SLc C t1)[i]?) = wc.map some) (hP : va_P D vwCl (wLs C ax am x2 y ++ SLc C u1) H1) (ha : (SLc C u1).map (fun q => q.1) = (SLc C t1).map (fun q => q.1))
    (hS : va_S (fun q : Nat => s.heap.size ≤ q) s.heap H1 locs1) (hk : ∀ q : Nat, q < H.size → ¬ va_A wc H.size q → H1[q]? = H[q]?) (hsub : ∀ q ∈ FRb x2 b2 t0 u1, q ∈ FRb x b t0 t1) (hs0 : X_o_slots x2 0 = t0.map (fun z => z.1)) (hs1 : X_o_slots x2 1 = u1.map (fun z => z.1)) : HLS D C s ax am H1 locs1 x2 b2 y t0 u1 := by
  obtain ⟨h1, h2, h3, h4, h5, h6⟩ := h
  have e0 : (wLs C ax am x2 y ++ FRs C t0 u1).map (fun q => q.1) = (wLs C ax am x y ++ FRs C t0 t1).map (fun q => q.1) := ma (a := wLs C ax am x2 y) (a2 := wLs C ax am x y) rfl (ma rfl ha)
  have hF : Fr D (wLs C ax am x y ++ SLc C t1) (SLc C t0) H := ⟨va_P_left (va_P_right h1), ap_mem h2⟩
  have hF1 := Fr_keep hF isC hC hk
  have hB := Fr_sub h3 hsub
  have hB' : Fr D (wLs C ax am x y ++ SLc C t1) (FRb x2 b2 t0 u1) H := by
    refine ⟨hB.1, fun q hq k e hk9 => ?_⟩
    by_cases hl : k < (wLs C ax am x y).length
    · rw [List.getElem?_append_left hl] at hk9
      exact hB.2 q hq k e (by rw [List.getElem?_append_left hl]; exact hk9)
    · rw [List.getElem?_append_right (by omega)] at hk9
      refine hB.2 q hq (k + (SLc C t0).length) e ?_
      rw [List.getElem?_append_right (by omega), List.getElem?_append_right (by omega)]
      rw [show k + (SLc C t0).length - (wLs C ax am x y).length - (SLc C t0).length = k - (wLs C ax am x y).length by omega]
      exact hk9
  have hB1 := Fr_keep hB' isC hC hk
  exact ⟨(va_P_left hP).app (hF1.app (va_P_right hP)), va_D_same h2 e0, Fr_same hB hB1 e0, hS, hs0, hs1⟩
/-- a new game beside the world, its cells new -/
theorem HLS_new {u0 u1 : SS} (h : HLS D C s ax am H locs x b y t0 t1) {wc n9 : va_W} (isC : List Nat) (hC : isC.map (fun i => (wLs C ax am x y)[i]?) = wc.map some) (hP : va_P D vwCl (wLs C ax am x2 y ++ n9) H1) (hD : va_D (fun q : Nat => s.heap.size ≤ q) (wLs C ax am x2 y ++ n9)) (hz : H.size ≤ H1.size) (hf : ∀ q ∈ n9, H.size ≤ q.1)
    (hS : va_S (fun q : Nat => s.heap.size ≤ q) s.heap H1 locs1) (hk : ∀ q : Nat, q < H.size → ¬ va_A wc H.size q → H1[q]? = H[q]?) (hsub : ∀ q ∈ FRb x2 b2 u0 u1, q ∈ FRb x b t0 t1) (hs0 : X_o_slots x2 0 = u0.map (fun z => z.1)) (hs1 : X_o_slots x2 1 = u1.map (fun z => z.1))
    (hc : (FRs C u0 u1 = n9 ++ FRs C t0 t1) ∨ (FRs C u0 u1 = FRs C t0 t1 ++ n9)) : HLS D C s ax am H1 locs1 x2 b2 y u0 u1 := by
  obtain ⟨h1, h2, h3, h4, h5, h6⟩ := h
  have ew : (wLs C ax am x2 y).map (fun q => q.1) = (wLs C ax am x y).map (fun q => q.1) := rfl
  have hF : Fr D (wLs C ax am x y) (FRs C t0 t1) H := ⟨va_P_right h1, va_D_apart h2⟩
  have hF1 := Fr_keep hF isC hC hk
  have hB := Fr_sub h3 hsub
  have hB1 := Fr_keep hB isC (pl_left isC hC) hk
  have e0 : (wLs C ax am x2 y ++ FRs C t0 t1).map (fun q => q.1) = (wLs C ax am x y ++ FRs C t0 t1).map (fun q => q.1) := ma (a := wLs C ax am x2 y) (a2 := wLs C ax am x y) ew rfl
  have hBs := Fr_same hB hB1 e0
  have hDo := va_D_same h2 e0
  have hlt : ∀ q ∈ FRs C t0 t1, q.1 < H.size := fun q hq => by obtain ⟨j, hj⟩ := List.mem_iff_getElem?.mp hq; exact (va_P_right h1 j q hj).lt
  have hDn : va_D (fun q : Nat => s.heap.size ≤ q) ((wLs C ax am x2 y ++ n9) ++ FRs C t0 t1) := by
    refine hD.app (va_D_mid (a := []) (f := wLs C ax am x2 y) (g := FRs C t0 t1) hDo) (fun i j p q hi hj he => ?_)
    have hq := List.mem_of_getElem? hj
    by_cases hl : i < (wLs C ax am x2 y).length
    · rw [List.getElem?_append_left hl] at hi
      exact va_D_apart hDo q hq i p.2 (by rw [hi, ← he])
    · rw [List.getElem?_append_right (by omega)] at hi
      have := hf p (List.mem_of_getElem? hi)
      have := hlt q hq
      omega
  have hBn : ∀ q ∈ FRb x2 b2 u0 u1, ∀ (k : Nat) (e : va_E), n9[k]? ≠ some (q.1, e) := fun q hq k e hk9 => by
    have h9 := hf (q.1, e) (List.mem_of_getElem? hk9)
    obtain ⟨j, hj⟩ := List.mem_iff_getElem?.mp hq
    have := (hB.1 j q hj).lt
    have : H.size ≤ q.1 := h9
    omega
  have fin : ∀ ff : va_W, (ff = n9 ++ FRs C t0 t1 ∨ ff = FRs C t0 t1 ++ n9) → va_P D vwCl (wLs C ax am x2 y ++ ff) H1 ∧ va_D (fun q : Nat => s.heap.size ≤ q) (wLs C ax am x2 y ++ ff) ∧ Fr D (wLs C ax am x2 y ++ ff) (FRb x2 b2 u0 u1) H1 := by
    intro ff hff
    have hPP : va_P D vwCl (wLs C ax am x2 y ++ ff) H1 := by
      rcases hff with rfl | rfl
      · exact (va_P_left hP).app ((va_P_right hP).app hF1)
      · exact (va_P_left hP).app (hF1.app (va_P_right hP))
    have hDD : va_D (fun q : Nat => s.heap.size ≤ q) (wLs C ax am x2 y ++ ff) := by
      rcases hff with rfl | rfl
      · rw [← List.append_assoc]; exact hDn
      · have k1 : va_D (fun q : Nat => s.heap.size ≤ q) (wLs C ax am x2 y ++ FRs C t0 t1) := hDo
        rw [← List.append_assoc]
        refine k1.app (va_D_mid (a := []) (f := wLs C ax am x2 y) (g := n9) hD) (fun i j p q hi hj he => ?_)
        have hq := List.mem_of_getElem? hj
        by_cases hl : i < (wLs C ax am x2 y).length
        · rw [List.getElem?_append_left hl] at hi
          exact va_D_apart hD q hq i p.2 (by rw [hi, ← he])
        · rw [List.getElem?_append_right (by omega)] at hi
          have := hf q hq
          have := hlt p (List.mem_of_getElem? hi)
          omega
    refine ⟨hPP, hDD, hB1, fun q hq k e hk9 => ?_⟩
    by_cases hl : k < (wLs C ax am x2 y).length
    · rw [List.getElem?_append_left hl] at hk9
      exact hBs.2 q hq k e (by rw [List.getElem?_append_left hl]; exact hk9)
    · rw [List.getElem?_append_right (by omega)] at hk9
      have hm := List.mem_of_getElem? hk9
      rcases hff with rfl | rfl <;> rcases List.mem_append.mp hm with hm | hm
      · obtain ⟨j, hj⟩ := List.mem_iff_getElem?.mp hm
        exact hBn q hq j e hj
      · obtain ⟨j, hj⟩ := List.mem_iff_getElem?.mp hm
        exact hBs.2 q hq ((wLs C ax am x2 y).length + j) e (by rw [List.getElem?_append_right (Nat.le_add_right _ _), Nat.add_sub_cancel_left]; exact hj)
      · obtain ⟨j, hj⟩ := List.mem_iff_getElem?.mp hm
        exact hBs.2 q hq ((wLs C ax am x2 y).length + j) e (by rw [List.getElem?_append_right (Nat.le_add_right _ _), Nat.add_sub_cancel_left]; exact hj)
      · obtain ⟨j, hj⟩ := List.mem_iff_getElem?.mp hm
        exact hBn q hq j e hj
  obtain ⟨f1, f2, f3⟩ := fin (FRs C u0 u1) hc
  exact ⟨f1, f2, f3, hS, hs0, hs1⟩
/-- a new board for the game -/
theorem HLS_board {q9 : Nat} (h : HLS D C s ax am H locs x b y t0 t1) {wc : va_W} (isC : List Nat) (hC : isC.map (fun i => (wLs C ax am x y)[i]?) = wc.map some) (hP : va_P D vwCl (wLs C ax am x2 y ++ [cBd q9 b2]) H1) (hD : va_D (fun q : Nat => s.heap.size ≤ q) (wLs C ax am x2 y ++ [cBd q9 b2])) (hf : H.size ≤ q9)
    (hS : va_S (fun q : Nat => s.heap.size ≤ q) s.heap H1 locs1) (hk : ∀ q : Nat, q < H.size → ¬ va_A wc H.size q → H1[q]? = H[q]?) (hg : X_o_game_board x2 = q9) (hsl : X_o_slots x2 = X_o_slots x) : HLS D C s ax am H1 locs1 x2 b2 y t0 t1 := by
  obtain ⟨h1, h2, h3, h4, h5, h6⟩ := h
  have e0 : (wLs C ax am x2 y ++ FRs C t0 t1).map (fun q => q.1) = (wLs C ax am x y ++ FRs C t0 t1).map (fun q => q.1) := by
    rw [List.map_append, List.map_append]
    rfl
  have hF : Fr D (wLs C ax am x y) (FRs C t0 t1) H := ⟨va_P_right h1, va_D_apart h2⟩
  have hF1 := Fr_keep hF isC hC hk
  have hlt : ∀ q ∈ FRs C t0 t1, q.1 < H.size := fun q hq => by obtain ⟨j, hj⟩ := List.mem_iff_getElem?.mp hq; exact (va_P_right h1 j q hj).lt
  have hT : Fr D (wLs C ax am x y ++ FRs C t0 t1) (bdc t0 ++ bdc t1) H := Fr_sub h3 (fun q hq => List.mem_cons_of_mem _ hq)
  have hT1 := Fr_same hT (Fr_keep hT isC (pl_left isC hC) hk) e0
  refine ⟨(va_P_left hP).app hF1, va_D_same h2 e0, ?_, hS, by rw [hsl]; exact h5, by rw [hsl]; exact h6⟩
  show Fr D _ (cBd (X_o_game_board x2) b2 :: (bdc t0 ++ bdc t1)) H1
  rw [hg]
  refine ⟨(va_P_right hP).app hT1.1, fun q hq k e hk9 => ?_⟩
  rcases List.mem_cons.mp hq with rfl | hq
  · by_cases hl : k < (wLs C ax am x2 y).length
    · rw [List.getElem?_append_left hl] at hk9
      exact va_D_apart hD _ (List.mem_singleton.mpr rfl) k e hk9
    · rw [List.getElem?_append_right (by omega)] at hk9
      have h9 := hlt _ (List.mem_of_getElem? hk9)
      have : q9 < H.size := h9
      omega
  · exact hT1.2 q hq k e hk9
end LAW1
