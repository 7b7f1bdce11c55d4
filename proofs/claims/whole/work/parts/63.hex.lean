/-! the game of Y: exactly one player wins, by the triangles' majorities -/
def nbr (x y : Nat × Nat) : Prop := (y.1 = x.1 + 1 ∧ y.2 = x.2) ∨ (x.1 = y.1 + 1 ∧ y.2 = x.2) ∨ (y.1 = x.1 ∧ y.2 = x.2 + 1) ∨ (y.1 = x.1 ∧ x.2 = y.2 + 1) ∨ (y.1 = x.1 + 1 ∧ x.2 = y.2 + 1) ∨ (x.1 = y.1 + 1 ∧ y.2 = x.2 + 1)
theorem nbr_symm {x y : Nat × Nat} (h : nbr x y) : nbr y x := by unfold nbr at *; omega
def con (ok : Nat × Nat → Prop) (a b : Nat × Nat) : Prop := ∀ S : Nat × Nat → Prop, S a → (∀ x y, S x → nbr x y → ok y → S y) → S b
theorem con_refl (ok : Nat × Nat → Prop) (a : Nat × Nat) : con ok a a := fun _ h _ => h
theorem con_step {ok : Nat × Nat → Prop} {a x y : Nat × Nat} (h : con ok a x) (hn : nbr x y) (hy : ok y) : con ok a y := fun S ha hs => hs x y (h S ha hs) hn hy
theorem con_trans {ok : Nat × Nat → Prop} {a b d : Nat × Nat} (h1 : con ok a b) (h2 : con ok b d) : con ok a d := fun S ha hs => h2 S (h1 S ha hs) hs
theorem con_ok {ok : Nat × Nat → Prop} {a b : Nat × Nat} (h : con ok a b) (ha : ok a) : ok b := h ok ha (fun _ _ _ _ hy => hy)
theorem con_symm {ok : Nat × Nat → Prop} {a b : Nat × Nat} (h : con ok a b) (ha : ok a) : con ok b a :=
  (h (fun x => ok x ∧ con ok x a) ⟨ha, con_refl ok a⟩ (fun x y hx hn hy => ⟨hy, con_trans (con_step (con_refl ok y) (nbr_symm hn) hx.1) hx.2⟩)).2
def own (N : Nat) (c : Nat × Nat → Bool) (P : Bool) (x : Nat × Nat) : Prop := x.1 + x.2 < N ∧ c x = P
def Ywin (N : Nat) (c : Nat × Nat → Bool) (P : Bool) : Prop := ∃ a, own N c P a ∧ (∃ x, con (own N c P) a x ∧ x.1 = 0) ∧ (∃ x, con (own N c P) a x ∧ x.2 = 0) ∧ (∃ x, con (own N c P) a x ∧ x.1 + x.2 + 1 = N)
def maj (a b d : Bool) : Bool := (a && b) || (a && d) || (b && d)
def red (c : Nat × Nat → Bool) (t : Nat × Nat) : Bool := maj (c t) (c (t.1 + 1, t.2)) (c (t.1, t.2 + 1))
def crn (t x : Nat × Nat) : Prop := x = t ∨ x = (t.1 + 1, t.2) ∨ x = (t.1, t.2 + 1)
theorem maj3 {a b d P : Bool} (h : maj a b d = P) : (a = P ∧ b = P) ∨ (a = P ∧ d = P) ∨ (b = P ∧ d = P) := by
  cases a <;> cases b <;> cases d <;> cases P <;> simp_all [maj]
theorem maj_of {a b d P : Bool} (h : (a = P ∧ b = P) ∨ (a = P ∧ d = P) ∨ (b = P ∧ d = P)) : maj a b d = P := by
  cases a <;> cases b <;> cases d <;> cases P <;> simp_all [maj]
theorem maj_nv {v e f P : Bool} (h : (v = P ∧ e = P) ∨ (v = P ∧ f = P) ∨ (e = P ∧ f = P)) (hv : ¬ v = P) : e = P ∧ f = P := by
  rcases h with h | h | h
  · exact absurd h.1 hv
  · exact absurd h.1 hv
  · exact h
/-- from one triangle to the next: v is shared -/
theorem tri_go {ok : Nat × Nat → Prop} {c : Nat × Nat → Bool} {P : Bool} {a0 v e1 e2 f1 f2 : Nat × Nat}
    (ht : (c v = P ∧ c e1 = P) ∨ (c v = P ∧ c e2 = P) ∨ (c e1 = P ∧ c e2 = P)) (ht2 : (c v = P ∧ c f1 = P) ∨ (c v = P ∧ c f2 = P) ∨ (c f1 = P ∧ c f2 = P))
    (kv : c v = P → con ok a0 v) (k1 : c e1 = P → con ok a0 e1) (n1 : nbr e1 f1) (n2 : nbr v f1) (n3 : nbr v f2) (n4 : nbr f1 f2) (o1 : c f1 = P → ok f1) (o2 : c f2 = P → ok f2) :
    (c v = P → con ok a0 v) ∧ (c f1 = P → con ok a0 f1) ∧ (c f2 = P → con ok a0 f2) := by
  refine ⟨kv, fun h => ?_, fun h => ?_⟩
  · by_cases hv : c v = P
    · exact con_step (kv hv) n2 (o1 h)
    · exact con_step (k1 (maj_nv ht hv).1) n1 (o1 h)
  · by_cases hv : c v = P
    · exact con_step (kv hv) n3 (o2 h)
    · have h1 := (maj_nv ht2 hv).1
      exact con_step (con_step (k1 (maj_nv ht hv).1) n1 (o1 h1)) n4 (o2 h)
theorem red3 {c : Nat × Nat → Bool} {P : Bool} {t : Nat × Nat} (h : red c t = P) : (c t = P ∧ c (t.1 + 1, t.2) = P) ∨ (c t = P ∧ c (t.1, t.2 + 1) = P) ∨ (c (t.1 + 1, t.2) = P ∧ c (t.1, t.2 + 1) = P) := maj3 h
theorem or3_rot {A B D : Prop} (h : A ∨ B ∨ D) : B ∨ A ∨ D := by rcases h with h | h | h; exact Or.inr (Or.inl h); exact Or.inl h; exact Or.inr (Or.inr h)
theorem pr3 {a b d : Prop} (h : (a ∧ b) ∨ (a ∧ d) ∨ (b ∧ d)) : (b ∧ a) ∨ (b ∧ d) ∨ (a ∧ d) := by
  rcases h with h | h | h
  · exact Or.inl ⟨h.2, h.1⟩
  · exact Or.inr (Or.inr h)
  · exact Or.inr (Or.inl h)
theorem pr3b {a b d : Prop} (h : (a ∧ b) ∨ (a ∧ d) ∨ (b ∧ d)) : (d ∧ a) ∨ (d ∧ b) ∨ (a ∧ b) := by
  rcases h with h | h | h
  · exact Or.inr (Or.inr h)
  · exact Or.inl ⟨h.2, h.1⟩
  · exact Or.inr (Or.inl ⟨h.2, h.1⟩)
theorem pr3s {a b d : Prop} (h : (a ∧ b) ∨ (a ∧ d) ∨ (b ∧ d)) : (a ∧ d) ∨ (a ∧ b) ∨ (d ∧ b) := by
  rcases h with h | h | h
  · exact Or.inr (Or.inl h)
  · exact Or.inl h
  · exact Or.inr (Or.inr ⟨h.2, h.1⟩)
/-- all corners of the player in the triangle are reached -/
def Rd (ok : Nat × Nat → Prop) (c : Nat × Nat → Bool) (P : Bool) (a0 t : Nat × Nat) : Prop := ∀ x, crn t x → c x = P → con ok a0 x
theorem Rd_step {N : Nat} {c : Nat × Nat → Bool} {P : Bool} {a0 t t2 : Nat × Nat} (h : Rd (own (N + 1) c P) c P a0 t) (ht : own N (red c) P t) (ht2 : own N (red c) P t2) (hn : nbr t t2) : Rd (own (N + 1) c P) c P a0 t2 := by
  obtain ⟨i, j⟩ := t
  obtain ⟨i2, j2⟩ := t2
  have h3 := red3 ht.2
  have h4 := red3 ht2.2
  have b1 : i + j < N := ht.1
  have b2 : i2 + j2 < N := ht2.1
  have kA := h (i, j) (Or.inl rfl)
  have kB := h (i + 1, j) (Or.inr (Or.inl rfl))
  have kC := h (i, j + 1) (Or.inr (Or.inr rfl))
  have oA : c (i2, j2) = P → own (N + 1) c P (i2, j2) := fun q => ⟨by show i2 + j2 < N + 1; omega, q⟩
  have oB : c (i2 + 1, j2) = P → own (N + 1) c P (i2 + 1, j2) := fun q => ⟨by show i2 + 1 + j2 < N + 1; omega, q⟩
  have oC : c (i2, j2 + 1) = P → own (N + 1) c P (i2, j2 + 1) := fun q => ⟨by show i2 + (j2 + 1) < N + 1; omega, q⟩
  have fin : (c (i2, j2) = P → con (own (N + 1) c P) a0 (i2, j2)) → (c (i2 + 1, j2) = P → con (own (N + 1) c P) a0 (i2 + 1, j2)) → (c (i2, j2 + 1) = P → con (own (N + 1) c P) a0 (i2, j2 + 1)) → Rd (own (N + 1) c P) c P a0 (i2, j2) := by
    intro f1 f2 f3 x hx hc
    rcases hx with rfl | rfl | rfl
    · exact f1 hc
    · exact f2 hc
    · exact f3 hc
  dsimp only at h3 h4
  rcases hn with ⟨h1, h2⟩ | ⟨h1, h2⟩ | ⟨h1, h2⟩ | ⟨h1, h2⟩ | ⟨h1, h2⟩ | ⟨h1, h2⟩ <;> dsimp only at h1 h2
  · -- t2 = (i+1, j): shared (i+1, j) = A2
    subst h1; subst h2
    obtain ⟨g1, g2, g3⟩ := tri_go (v := (i + 1, j2)) (e1 := (i, j2 + 1)) (e2 := (i, j2)) (f1 := (i + 1, j2 + 1)) (f2 := (i + 1 + 1, j2)) (pr3 (pr3s h3) |> fun q => by rcases h3 with q | q | q; exact Or.inr (Or.inl ⟨q.2, q.1⟩); exact Or.inr (Or.inr ⟨q.2, q.1⟩); exact Or.inl q) (pr3s h4) kB kC (by unfold nbr; omega) (by unfold nbr; omega) (by unfold nbr; omega) (by unfold nbr; omega) oC oB
    exact fin g1 g3 g2
  · -- t = (i2+1, j): shared (i2+1, j) = A = B2
    subst h1; subst h2
    obtain ⟨g1, g2, g3⟩ := tri_go (v := (i2 + 1, j2)) (e1 := (i2 + 1, j2 + 1)) (e2 := (i2 + 1 + 1, j2)) (f1 := (i2, j2 + 1)) (f2 := (i2, j2)) (pr3s h3) (by rcases h4 with q | q | q; exact Or.inr (Or.inl ⟨q.2, q.1⟩); exact Or.inr (Or.inr ⟨q.2, q.1⟩); exact Or.inl q) kA kC (by unfold nbr; omega) (by unfold nbr; omega) (by unfold nbr; omega) (by unfold nbr; omega) oC oA
    exact fin g3 g1 g2
  · -- t2 = (i, j+1): shared (i, j+1) = C = A2
    subst h1; subst h2
    obtain ⟨g1, g2, g3⟩ := tri_go (v := (i2, j + 1)) (e1 := (i2 + 1, j)) (e2 := (i2, j)) (f1 := (i2 + 1, j + 1)) (f2 := (i2, j + 1 + 1)) (by rcases h3 with q | q | q; exact Or.inr (Or.inr ⟨q.2, q.1⟩); exact Or.inr (Or.inl ⟨q.2, q.1⟩); exact Or.inl ⟨q.2, q.1⟩) h4 kC kB (by unfold nbr; omega) (by unfold nbr; omega) (by unfold nbr; omega) (by unfold nbr; omega) oB oC
    exact fin g1 g2 g3
  · -- t = (i, j2+1): shared (i, j2+1) = A = C2
    subst h1; subst h2
    obtain ⟨g1, g2, g3⟩ := tri_go (v := (i2, j2 + 1)) (e1 := (i2 + 1, j2 + 1)) (e2 := (i2, j2 + 1 + 1)) (f1 := (i2 + 1, j2)) (f2 := (i2, j2)) h3 (by rcases h4 with q | q | q; exact Or.inr (Or.inr ⟨q.2, q.1⟩); exact Or.inr (Or.inl ⟨q.2, q.1⟩); exact Or.inl ⟨q.2, q.1⟩) kA kB (by unfold nbr; omega) (by unfold nbr; omega) (by unfold nbr; omega) (by unfold nbr; omega) oB oA
    exact fin g3 g2 g1
  · -- t2 = (i+1, j-1): shared (i+1, j) = B = C2
    subst h1; subst h2
    obtain ⟨g1, g2, g3⟩ := tri_go (v := (i + 1, j2 + 1)) (e1 := (i, j2 + 1)) (e2 := (i, j2 + 1 + 1)) (f1 := (i + 1, j2)) (f2 := (i + 1 + 1, j2)) (by rcases h3 with q | q | q; exact Or.inl ⟨q.2, q.1⟩; exact Or.inr (Or.inr q); exact Or.inr (Or.inl q)) (by rcases h4 with q | q | q; exact Or.inr (Or.inr q); exact Or.inl ⟨q.2, q.1⟩; exact Or.inr (Or.inl ⟨q.2, q.1⟩)) kB kA (by unfold nbr; omega) (by unfold nbr; omega) (by unfold nbr; omega) (by unfold nbr; omega) oA oB
    exact fin g2 g3 g1
  · -- t2 = (i-1, j+1): shared (i, j+1) = C = B2
    subst h1; subst h2
    obtain ⟨g1, g2, g3⟩ := tri_go (v := (i2 + 1, j + 1)) (e1 := (i2 + 1, j)) (e2 := (i2 + 1 + 1, j)) (f1 := (i2, j + 1)) (f2 := (i2, j + 1 + 1)) (by rcases h3 with q | q | q; exact Or.inr (Or.inr q); exact Or.inl ⟨q.2, q.1⟩; exact Or.inr (Or.inl ⟨q.2, q.1⟩)) (by rcases h4 with q | q | q; exact Or.inl ⟨q.2, q.1⟩; exact Or.inr (Or.inr q); exact Or.inr (Or.inl q)) kC kA (by unfold nbr; omega) (by unfold nbr; omega) (by unfold nbr; omega) (by unfold nbr; omega) oA oC
    exact fin g2 g1 g3
theorem Y_up {N : Nat} {c : Nat × Nat → Bool} {P : Bool} (h : Ywin N (red c) P) : Ywin (N + 1) c P := by
  obtain ⟨a, ha, ⟨x, hx, ex⟩, ⟨y, hy, ey⟩, ⟨z, hz, ez⟩⟩ := h
  -- a corner of a
  have first : ∀ t, own N (red c) P t → ∃ x, crn t x ∧ own (N + 1) c P x := by
    rintro ⟨i, j⟩ ⟨hb, hr⟩
    have hb' : i + j < N := hb
    rcases red3 hr with q | q | q
    · exact ⟨(i, j), Or.inl rfl, by show i + j < N + 1; omega, q.1⟩
    · exact ⟨(i, j), Or.inl rfl, by show i + j < N + 1; omega, q.1⟩
    · exact ⟨(i + 1, j), Or.inr (Or.inl rfl), by show i + 1 + j < N + 1; omega, q.1⟩
  obtain ⟨a0, hca, ha0⟩ := first a ha
  have hRa : Rd (own (N + 1) c P) c P a0 a := by
    intro w hw hc
    obtain ⟨i, j⟩ := a
    have hb' : i + j < N := ha.1
    have ho : own (N + 1) c P w := by
      refine ⟨?_, hc⟩
      rcases hw with rfl | rfl | rfl
      · show i + j < N + 1; omega
      · show i + 1 + j < N + 1; omega
      · show i + (j + 1) < N + 1; omega
    by_cases e : w = a0
    · rw [e]; exact con_refl _ _
    · refine con_step (con_refl _ _) ?_ ho
      rcases hca with rfl | rfl | rfl <;> rcases hw with rfl | rfl | rfl <;> first | exact absurd rfl e | (unfold nbr; dsimp only; omega)
  have hall : ∀ t, con (own N (red c) P) a t → own N (red c) P t ∧ Rd (own (N + 1) c P) c P a0 t := by
    intro t ht
    exact ht (fun t => own N (red c) P t ∧ Rd (own (N + 1) c P) c P a0 t) ⟨ha, hRa⟩ (fun u w hu hn hw => ⟨hw, Rd_step hu.2 hu.1 hw hn⟩)
  refine ⟨a0, ha0, ?_, ?_, ?_⟩
  · obtain ⟨hox, hRx⟩ := hall x hx
    obtain ⟨i, j⟩ := x
    have ex' : i = 0 := ex
    subst ex'
    rcases red3 hox.2 with q | q | q
    · exact ⟨(0, j), hRx _ (Or.inl rfl) q.1, rfl⟩
    · exact ⟨(0, j), hRx _ (Or.inl rfl) q.1, rfl⟩
    · exact ⟨(0, j + 1), hRx _ (Or.inr (Or.inr rfl)) q.2, rfl⟩
  · obtain ⟨hox, hRx⟩ := hall y hy
    obtain ⟨i, j⟩ := y
    have ex' : j = 0 := ey
    subst ex'
    rcases red3 hox.2 with q | q | q
    · exact ⟨(i, 0), hRx _ (Or.inl rfl) q.1, rfl⟩
    · exact ⟨(i, 0), hRx _ (Or.inl rfl) q.1, rfl⟩
    · exact ⟨(i + 1, 0), hRx _ (Or.inr (Or.inl rfl)) q.1, rfl⟩
  · obtain ⟨hox, hRx⟩ := hall z hz
    obtain ⟨i, j⟩ := z
    have ex' : i + j + 1 = N := ez
    rcases red3 hox.2 with q | q | q
    · exact ⟨(i + 1, j), hRx _ (Or.inr (Or.inl rfl)) q.2, by show i + 1 + j + 1 = N + 1; omega⟩
    · exact ⟨(i, j + 1), hRx _ (Or.inr (Or.inr rfl)) q.2, by show i + (j + 1) + 1 = N + 1; omega⟩
    · exact ⟨(i + 1, j), hRx _ (Or.inr (Or.inl rfl)) q.1, by show i + 1 + j + 1 = N + 1; omega⟩
/-- two cells beside each other lie in one triangle -/
theorem tri_of {N : Nat} {c : Nat × Nat → Bool} {P : Bool} {x y : Nat × Nat} (hx : own (N + 1) c P x) (hy : own (N + 1) c P y) (hn : nbr x y) : ∃ t, own N (red c) P t ∧ crn t x ∧ crn t y := by
  obtain ⟨i, j⟩ := x
  obtain ⟨i2, j2⟩ := y
  have b1 : i + j < N + 1 := hx.1
  have b2 : i2 + j2 < N + 1 := hy.1
  have c1 := hx.2
  have c2 := hy.2
  rcases hn with ⟨h1, h2⟩ | ⟨h1, h2⟩ | ⟨h1, h2⟩ | ⟨h1, h2⟩ | ⟨h1, h2⟩ | ⟨h1, h2⟩ <;> dsimp only at h1 h2
  · subst h1; subst h2
    exact ⟨(i, j2), ⟨by show i + j2 < N; omega, maj_of (Or.inl ⟨c1, c2⟩)⟩, Or.inl rfl, Or.inr (Or.inl rfl)⟩
  · subst h1; subst h2
    exact ⟨(i2, j2), ⟨by show i2 + j2 < N; omega, maj_of (Or.inl ⟨c2, c1⟩)⟩, Or.inr (Or.inl rfl), Or.inl rfl⟩
  · subst h1; subst h2
    exact ⟨(i2, j), ⟨by show i2 + j < N; omega, maj_of (Or.inr (Or.inl ⟨c1, c2⟩))⟩, Or.inl rfl, Or.inr (Or.inr rfl)⟩
  · subst h1; subst h2
    exact ⟨(i2, j2), ⟨by show i2 + j2 < N; omega, maj_of (Or.inr (Or.inl ⟨c2, c1⟩))⟩, Or.inr (Or.inr rfl), Or.inl rfl⟩
  · subst h1; subst h2
    exact ⟨(i, j2), ⟨by show i + j2 < N; omega, maj_of (Or.inr (Or.inr ⟨c2, c1⟩))⟩, Or.inr (Or.inr rfl), Or.inr (Or.inl rfl)⟩
  · subst h1; subst h2
    exact ⟨(i2, j), ⟨by show i2 + j < N; omega, maj_of (Or.inr (Or.inr ⟨c1, c2⟩))⟩, Or.inr (Or.inl rfl), Or.inr (Or.inr rfl)⟩
/-- triangles with a common corner are beside each other, or one -/
theorem tri_near {t u x : Nat × Nat} (h1 : crn t x) (h2 : crn u x) : u = t ∨ nbr t u := by
  obtain ⟨i, j⟩ := t
  obtain ⟨i2, j2⟩ := u
  obtain ⟨a, b⟩ := x
  have e1 : (a = i ∧ b = j) ∨ (a = i + 1 ∧ b = j) ∨ (a = i ∧ b = j + 1) := by
    rcases h1 with h | h | h <;> injection h with p q
    · exact Or.inl ⟨p, q⟩
    · exact Or.inr (Or.inl ⟨p, q⟩)
    · exact Or.inr (Or.inr ⟨p, q⟩)
  have e2 : (a = i2 ∧ b = j2) ∨ (a = i2 + 1 ∧ b = j2) ∨ (a = i2 ∧ b = j2 + 1) := by
    rcases h2 with h | h | h <;> injection h with p q
    · exact Or.inl ⟨p, q⟩
    · exact Or.inr (Or.inl ⟨p, q⟩)
    · exact Or.inr (Or.inr ⟨p, q⟩)
  by_cases e : i2 = i ∧ j2 = j
  · exact Or.inl (by rw [e.1, e.2])
  · right
    unfold nbr
    dsimp only
    omega
theorem Y_down {N : Nat} (hN : 1 ≤ N) {c : Nat × Nat → Bool} {P : Bool} (h : Ywin (N + 1) c P) : Ywin N (red c) P := by
  obtain ⟨a, ha, ⟨x, hx, ex⟩, ⟨y, hy, ey⟩, ⟨z, hz, ez⟩⟩ := h
  -- a isn't alone
  have hnb : ∃ y0, nbr a y0 ∧ own (N + 1) c P y0 := by
    rcases Classical.em (∃ y0, nbr a y0 ∧ own (N + 1) c P y0) with q | q
    · exact q
    · exfalso
      have only : ∀ w, con (own (N + 1) c P) a w → w = a := fun w hw => hw (fun w => w = a) rfl (fun u v hu hn hv => by subst hu; exact absurd ⟨v, hn, hv⟩ q)
      have e1 := only x hx
      have e2 := only y hy
      have e3 := only z hz
      subst e1
      rw [e2] at ey
      rw [e3] at ez
      omega
  obtain ⟨y0, hy0, hoy0⟩ := hnb
  obtain ⟨t0, ht0, hc0, -⟩ := tri_of ha hoy0 hy0
  have near : ∀ {t u w : Nat × Nat}, con (own N (red c) P) t0 t → own N (red c) P u → crn t w → crn u w → con (own N (red c) P) t0 u := by
    intro t u w h1 h2 h3 h4
    rcases tri_near h3 h4 with rfl | hn
    · exact h1
    · exact con_step h1 hn h2
  have key : ∀ w, con (own (N + 1) c P) a w → own (N + 1) c P w ∧ (∃ v, nbr w v ∧ own (N + 1) c P v) ∧ ∀ t, own N (red c) P t → crn t w → con (own N (red c) P) t0 t := by
    intro w hw
    refine hw (fun w => own (N + 1) c P w ∧ (∃ v, nbr w v ∧ own (N + 1) c P v) ∧ ∀ t, own N (red c) P t → crn t w → con (own N (red c) P) t0 t) ⟨ha, ⟨y0, hy0, hoy0⟩, fun t ht hc => near (con_refl _ t0) ht hc0 hc⟩ ?_
    rintro u v ⟨hu, -, hk⟩ hn hv
    refine ⟨hv, ⟨u, nbr_symm hn, hu⟩, fun t ht hc => ?_⟩
    obtain ⟨tt, htt, hcu, hcv⟩ := tri_of hu hv hn
    exact near (hk tt htt hcu) ht hcv hc
  have side : ∀ w, con (own (N + 1) c P) a w → ∃ t, con (own N (red c) P) t0 t ∧ own N (red c) P t ∧ crn t w := by
    intro w hw
    obtain ⟨ho, ⟨v, hn, hov⟩, hk⟩ := key w hw
    obtain ⟨tt, htt, hcw, -⟩ := tri_of ho hov hn
    exact ⟨tt, hk tt htt hcw, htt, hcw⟩
  refine ⟨t0, ht0, ?_, ?_, ?_⟩
  · obtain ⟨t, h1, h2, h3⟩ := side x hx
    refine ⟨t, h1, ?_⟩
    rcases h3 with h | h | h <;> rw [h] at ex <;> (try dsimp only at ex) <;> omega
  · obtain ⟨t, h1, h2, h3⟩ := side y hy
    refine ⟨t, h1, ?_⟩
    rcases h3 with h | h | h <;> rw [h] at ey <;> (try dsimp only at ey) <;> omega
  · obtain ⟨t, h1, h2, h3⟩ := side z hz
    refine ⟨t, h1, ?_⟩
    have := h2.1
    rcases h3 with h | h | h <;> rw [h] at ez <;> (try dsimp only at ez) <;> omega
theorem Y_one {c : Nat × Nat → Bool} {P : Bool} : Ywin 1 c P ↔ c (0, 0) = P := by
  constructor
  · rintro ⟨⟨i, j⟩, ⟨hb, hc⟩, -⟩
    have : i = 0 ∧ j = 0 := by have : i + j < 1 := hb; omega
    rw [this.1, this.2] at hc
    exact hc
  · intro h
    exact ⟨(0, 0), ⟨by decide, h⟩, ⟨(0, 0), con_refl _ _, rfl⟩, ⟨(0, 0), con_refl _ _, rfl⟩, ⟨(0, 0), con_refl _ _, rfl⟩⟩
/-- exactly one player has a Y -/
theorem Y_xor (N : Nat) (c : Nat × Nat → Bool) : Ywin (N + 1) c true ↔ ¬ Ywin (N + 1) c false := by
  induction N generalizing c with
  | zero =>
    rw [Y_one, Y_one]
    cases c (0, 0) <;> simp
  | succ N ih =>
    have h := ih (red c)
    constructor
    · intro h1 h2
      exact h.mp (Y_down (by omega) h1) (Y_down (by omega) h2)
    · intro h1
      exact Y_up (h.mpr (fun q => h1 (Y_up q)))
