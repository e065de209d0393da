/-! what the grammar tells goes through -/
def Run (N : Nat) : List Bool → List Int → List Bool → Prop
  | u, [], v => v = u
  | u, s :: l, v => u.length ≤ N ∧ ∃ u', trn s u u' ∧ Run N u' l v
theorem Run.app {N : Nat} {v z : List Bool} {l' : List Int} : ∀ {l : List Int} {u : List Bool}, Run N u l v → Run N v l' z → Run N u (l ++ l') z := by
  intro l
  induction l with
  | nil => intro u a b; have a : v = u := a; subst a; exact b
  | cons s l ih => intro u a b; obtain ⟨a1, u', a2, a3⟩ := a; exact ⟨a1, u', a2, ih a3 b⟩
theorem Run.le {N M : Nat} (h : N ≤ M) {v : List Bool} : ∀ {l : List Int} {u : List Bool}, Run N u l v → Run M u l v := by
  intro l
  induction l with
  | nil => intro u a; exact a
  | cons s l ih => intro u a; obtain ⟨a1, u', a2, a3⟩ := a; exact ⟨Nat.le_trans a1 h, u', a2, ih a3⟩
theorem Run.one {N : Nat} {s : Int} {u v : List Bool} (h : u.length ≤ N) (a : trn s u v) : Run N u [s] v := ⟨h, v, a, rfl⟩
theorem Run.wff {N : Nat} (hN : N ≤ 60) {b : Bool} {f : Int → Int} {l : List Int} (R : Run N [] l [b]) (A : Lst f l) : wff f l.length b := by
  have key : ∀ (l : List Int) (u v : List Bool), Run N u l v → ∃ ts : Nat → List Bool, ts 0 = u ∧ ts l.length = v ∧ ∀ i : Nat, i < l.length → trn (l.getD i 0) (ts i) (ts (i + 1)) ∧ (ts i).length ≤ N := by
    intro l
    induction l with
    | nil => intro u v a; exact ⟨fun _ => u, rfl, (show v = u from a).symm, fun i hi => absurd hi (Nat.not_lt_zero _)⟩
    | cons s l ih =>
      intro u v a
      obtain ⟨a1, u', a2, a3⟩ := a
      obtain ⟨ts, t1, t2, t3⟩ := ih u' v a3
      refine ⟨fun i => match i with | 0 => u | i + 1 => ts i, rfl, t2, fun i hi => ?_⟩
      cases i with
      | zero => exact ⟨by show trn s u (ts 0); rw [t1]; exact a2, a1⟩
      | succ i =>
        have := t3 i (by rw [List.length_cons] at hi; omega)
        exact ⟨by simpa using this.1, this.2⟩
  obtain ⟨ts, t1, t2, t3⟩ := key l [] [b] R
  refine ⟨ts, t1, t2, fun i hi => ?_⟩
  rw [A i hi]
  exact ⟨(t3 i hi).1, by have := (t3 i hi).2; omega⟩
def sOK (as x : Int) : Prop := (0 ≤ x ∧ x ≤ 9999) ∨ (∃ y ∈ lfW as, x = y.2) ∨ (∃ y ∈ ofW as, x = y.2) ∨ (-6 ≤ x ∧ x ≤ -1)
def dp : Nat → Nat → Nat
  | 0, o => 4 * (6 - o)
  | 1, o => 4 * (6 - o) + 2
  | 2, o => 4 * (6 - o) + 2
  | _, o => 4 * (6 - o) + 3
def RNs (as : Int) (m o : Nat) (l : List Int) : Prop := (∀ x ∈ l, sOK as x) ∧ ∀ u : List Bool, Run (u.length + dp m o) (if m = 2 ∨ m = 4 then false :: u else u) l (false :: u)
def RN (as : Int) (m o _p : Nat) (res : RS) : Prop := o ≤ 6 → Sum.elim (fun _ => True) (fun r => RNs as m o r.2 ∧ (m ≠ 2 → m ≠ 4 → r.2 ≠ [])) res
section L3K
variable {t : Int → Int} {L : Nat} {as : Int}
theorem trn_jn {s : Int} {u : List Bool} (h : -6 ≤ s ∧ s ≤ -1) : trn s (false :: false :: u) (false :: u) := Or.inr (Or.inr (Or.inr (Or.inr (Or.inr (Or.inl ⟨h.1, h.2, u, rfl, rfl⟩)))))
theorem lf_trn (x : Int × Int) (hx : x ∈ lfW as) (u : List Bool) : trn x.2 u (false :: u) := by
  refine Or.inr (Or.inr (Or.inl ?_))
  have : -28 ≤ x.2 ∧ x.2 ≤ -20 := by
    unfold lfW at hx
    split at hx <;> (simp only [List.mem_cons, List.not_mem_nil, or_false] at hx)
    · rcases hx with rfl | rfl | rfl | rfl | rfl | rfl | rfl <;> decide
    · rcases hx with rfl | rfl | rfl <;> decide
  exact ⟨this.1, this.2, rfl⟩
theorem of_trn (x : Int × Int) (hx : x ∈ ofW as) (u : List Bool) : trn x.2 (false :: u) (false :: u) := by
  refine Or.inr (Or.inr (Or.inr (Or.inr (Or.inl ⟨?_, u, rfl, rfl⟩))))
  unfold ofW at hx
  split at hx <;> (simp only [List.mem_cons, List.not_mem_nil, or_false] at hx)
  rcases hx with rfl | rfl
  · exact Or.inl rfl
  · exact Or.inr rfl
theorem pr_in : ∀ x ∈ prW, -6 ≤ x.2 ∧ x.2 ≤ -1 := by decide
theorem mem2 {l l' : List Int} {P : Int → Prop} (a : ∀ x ∈ l, P x) (b : ∀ x ∈ l', P x) : ∀ x ∈ l ++ l', P x := fun x hx => (List.mem_append.mp hx).elim (a x) (b x)
theorem mem1 {v : Int} {P : Int → Prop} (a : P v) : ∀ x ∈ [v], P x := fun x hx => by rw [List.mem_singleton.mp hx]; exact a
theorem rn_ruL {m1 m2 m3 : Nat} {ops : List (Int × Int)} (hops : ∀ x ∈ ops, -6 ≤ x.2 ∧ x.2 ≤ -1) (h1 : m1 ≠ 2 ∧ m1 ≠ 4) (h2 : m2 ≠ 2 ∧ m2 ≠ 4) (h3 : m3 = 2 ∨ m3 = 4) (hd : ∀ o : Nat, dp m1 o + 1 ≤ dp m2 o ∧ dp m2 o = dp m3 o ∧ 2 ≤ dp m3 o) : RuL t L (RN as) m1 m2 m3 ops := by
  have i1 : ∀ u : List Bool, (if m1 = 2 ∨ m1 = 4 then false :: u else u) = u := fun u => if_neg (fun x => x.elim h1.1 h1.2)
  have i2 : ∀ u : List Bool, (if m2 = 2 ∨ m2 = 4 then false :: u else u) = u := fun u => if_neg (fun x => x.elim h2.1 h2.2)
  have i3 : ∀ u : List Bool, (if m3 = 2 ∨ m3 = 4 then false :: u else u) = false :: u := fun u => if_pos h3
  refine ⟨fun _ _ _ _ _ => trivial, fun _ _ _ _ _ _ _ _ => trivial, fun o p p1 s1 p2 s2 H1 H2 ho => ⟨⟨mem2 (H1 ho).1.1 (H2 ho).1.1, fun u => ?_⟩, fun _ _ => ?_⟩, fun o p _ ho => ⟨⟨fun x hx => absurd hx List.not_mem_nil, fun u => ?_⟩, fun a b => (h3.elim a b).elim⟩, fun _ _ _ _ _ _ _ _ => trivial, fun _ _ _ _ _ _ _ _ _ _ _ => trivial, fun o p x p1 s1 p2 s2 hx _ H1 H2 ho => ⟨⟨mem2 (mem2 (H1 ho).1.1 (mem1 (Or.inr (Or.inr (Or.inr (hops x hx)))))) (H2 ho).1.1, fun u => ?_⟩, fun a b => (h3.elim a b).elim⟩⟩
  · have a := (H1 ho).1.2 u
    have b := (H2 ho).1.2 u
    have d := hd o
    rw [i1] at a; rw [i3] at b; rw [i2]
    exact (a.le (by omega)).app (b.le (by omega))
  · have := (H1 ho).2 h1.1 h1.2
    intro e
    exact this (List.append_eq_nil_iff.mp e).1
  · rw [i3]; rfl
  · have a := (H1 ho).1.2 (false :: u)
    have b := (H2 ho).1.2 u
    have d := hd o
    rw [i1, List.length_cons] at a; rw [i3] at b; rw [i3]
    exact ((a.le (by omega)).app (Run.one (by rw [List.length_cons, List.length_cons]; omega) (trn_jn (hops x hx)))).app b
theorem rn_rul : Rul t L as (RN as) := by
  refine ⟨⟨fun o p v n _ nv ho => ⟨⟨?_, fun u => ?_⟩, fun _ _ => by simp⟩, fun _ _ _ _ _ _ _ => trivial⟩, ⟨fun _ _ _ _ _ => trivial, fun _ _ _ _ _ _ _ => trivial, fun _ _ _ _ _ _ _ _ _ => trivial, fun o p p1 s b4 lo H b5 ho => ⟨⟨(H (by omega)).1.1, fun u => ?_⟩, fun _ _ => (H (by omega)).2 (by decide) (by decide)⟩⟩, ⟨fun _ _ _ _ _ _ _ => trivial, fun _ _ _ _ _ _ _ _ => trivial, fun _ _ _ _ _ _ _ _ _ _ => trivial, fun _ _ _ _ _ _ _ _ _ _ _ _ => trivial, fun _ _ _ _ _ _ _ _ _ _ _ _ _ _ => trivial, fun _ _ _ _ _ _ _ _ _ _ _ _ _ _ _ _ => trivial, fun o p x p2 s1 p3 s2 hx wx b4 lo H1 b5 H2 b6 ho => ⟨⟨mem2 (mem2 (H1 (by omega)).1.1 (H2 (by omega)).1.1) (mem1 (Or.inr (Or.inr (Or.inr (pr_in x hx))))), fun u => ?_⟩, fun _ _ => by simp⟩⟩, ⟨fun o p x hx wx ho => ⟨⟨mem1 (Or.inr (Or.inl ⟨x, hx, rfl⟩)), fun u => Run.one (show u.length ≤ u.length + dp 0 o from Nat.le_add_right _ _) (lf_trn x hx u)⟩, fun _ _ => by simp⟩, fun _ _ _ _ _ _ _ => trivial, fun _ _ _ _ _ _ _ _ _ => trivial, fun o p x p1 s hx wx lo H ho => ⟨⟨mem2 (H (by omega)).1.1 (mem1 (Or.inr (Or.inr (Or.inl ⟨x, hx, rfl⟩)))), fun u => ?_⟩, fun _ _ => by simp⟩, fun _ _ _ _ _ _ => trivial⟩, rn_ruL (by decide) (by decide) (by decide) (Or.inl rfl) (fun o => ⟨by show 4 * (6 - o) + 1 ≤ 4 * (6 - o) + 2; omega, rfl, by show 2 ≤ 4 * (6 - o) + 2; omega⟩), rn_ruL (by decide) (by decide) (by decide) (Or.inr rfl) (fun o => ⟨by show 4 * (6 - o) + 2 + 1 ≤ 4 * (6 - o) + 3; omega, rfl, by show 2 ≤ 4 * (6 - o) + 3; omega⟩)⟩
  · have v0 := nv.2.2.2.2.2.2.2
    exact mem1 (Or.inl v0)
  · have v0 := nv.2.2.2.2.2.2.2
    exact Run.one (by show u.length ≤ _; omega) (Or.inl ⟨v0.1, v0.2, rfl⟩)
  · exact ((H (by omega)).1.2 u).le (by show u.length + (4 * (6 - (o + 1)) + 3) ≤ u.length + 4 * (6 - o); omega)
  · have a := (H1 (by omega)).1.2 u
    have b := (H2 (by omega)).1.2 (false :: u)
    have d1 : u.length + dp 3 (o + 1) ≤ u.length + dp 0 o := by show u.length + (4 * (6 - (o + 1)) + 3) ≤ u.length + 4 * (6 - o); omega
    have d2 : (false :: u).length + dp 3 (o + 1) ≤ u.length + dp 0 o := by show (u.length + 1) + (4 * (6 - (o + 1)) + 3) ≤ u.length + 4 * (6 - o); omega
    have d3 : (false :: false :: u).length ≤ u.length + dp 0 o := by show u.length + 1 + 1 ≤ u.length + 4 * (6 - o); omega
    exact ((Run.le d1 a).app (Run.le d2 b)).app (Run.one d3 (trn_jn (pr_in x hx)))
  · have a := (H (by omega)).1.2 u
    have d1 : u.length + dp 0 (o + 1) ≤ u.length + dp 0 o := by show u.length + 4 * (6 - (o + 1)) ≤ u.length + 4 * (6 - o); omega
    have d2 : (false :: u).length ≤ u.length + dp 0 o := by show u.length + 1 ≤ u.length + 4 * (6 - o); omega
    exact (Run.le d1 a).app (Run.one d2 (of_trn x hx u))
/-- a sum that is told: its steps go through -/
theorem Gr.wff {o p p' : Nat} {s : List Int} {f : Int → Int} (G : Gr t L as 3 0 p (.inr (p', s))) (A : Lst f s) : wff f s.length false ∧ 0 < s.length ∧ ∀ x ∈ s, sOK as x := by
  have H := G (RN as) rn_rul (by omega)
  refine ⟨Run.wff (N := 27) (by omega) ?_ A, ?_, H.1.1⟩
  · have := H.1.2 []
    exact this
  · have := H.2 (by decide) (by decide)
    exact List.length_pos_iff.mpr this
end L3K
