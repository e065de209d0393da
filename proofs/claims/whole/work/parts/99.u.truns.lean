/-! what the grammar of tests tells goes through; a fault's place lies on the tape -/
def dpt : Nat → Nat → Nat
  | 0, o => 4 * (6 - o) + 4
  | 1, o => 4 * (6 - o) + 5
  | 2, o => 4 * (6 - o) + 5
  | _, o => 4 * (6 - o) + 6
def RNt (m o : Nat) (l : List (Int × Int)) : Prop := (∀ x ∈ l, qR x.1 x.2) ∧ ∀ u : List Bool, Run (u.length + dpt m o) (if m = 2 ∨ m = 4 then true :: u else u) (l.map Prod.fst) (true :: u)
def RN2 (m o _p : Nat) (res : RL) : Prop := o ≤ 6 → Sum.elim (fun _ => True) (fun r => RNt m o r.2 ∧ (m ≠ 2 → m ≠ 4 → r.2 ≠ [])) res
section L5J
variable {t : Int → Int} {L : Nat}
theorem qR_of {x : Int} (h : sOK 1 x) : qR x (cdQ x) := by
  have l1 : ∀ y ∈ lfW 1, qR y.2 (cdQ y.2) := by unfold qR; decide
  have l2 : ∀ y ∈ ofW 1, qR y.2 (cdQ y.2) := by unfold qR; decide
  rcases h with h | ⟨y, hy, e⟩ | ⟨y, hy, e⟩ | h
  · exact Or.inl ⟨h.1, by unfold cdQ; rw [if_pos h.1]⟩
  · rw [e]; exact l1 y hy
  · rw [e]; exact l2 y hy
  · have : x = -6 ∨ x = -5 ∨ x = -4 ∨ x = -3 ∨ x = -2 ∨ x = -1 := by omega
    rcases this with rfl | rfl | rfl | rfl | rfl | rfl <;> (unfold qR; decide)
theorem tk_qR {s : List Int} (h : ∀ x ∈ s, sOK 1 x) : ∀ y ∈ tk s, qR y.1 y.2 := fun y hy => by
  unfold tk at hy
  obtain ⟨x, hx, rfl⟩ := List.mem_map.mp hy
  exact qR_of (h x hx)
theorem m2 {P : Int × Int → Prop} {l l' : List (Int × Int)} (a : ∀ x ∈ l, P x) (b : ∀ x ∈ l', P x) : ∀ x ∈ l ++ l', P x := fun x hx => (List.mem_append.mp hx).elim (a x) (b x)
theorem m1 {P : Int × Int → Prop} {v : Int × Int} (a : P v) : ∀ x ∈ [v], P x := fun x hx => by rw [List.mem_singleton.mp hx]; exact a
theorem rt_F : TuF t L (fun m o p r => RN2 m o p r) := by
  refine ⟨fun o p W o6 ho => trivial, fun o p f W lo H ho => trivial, fun o p p1 s W lo H ho => ?_⟩
  obtain ⟨⟨a, b⟩, -⟩ := H (by omega)
  refine ⟨⟨m2 a (m1 (by unfold qR; decide)), fun u => ?_⟩, fun _ _ => by simp⟩
  rw [List.map_append]
  exact ((b u).le (by show u.length + (4 * (6 - (o + 1)) + 4) ≤ u.length + (4 * (6 - o) + 4); omega)).app (Run.one (by show u.length + 1 ≤ u.length + (4 * (6 - o) + 4); omega) (Or.inr (Or.inr (Or.inr (Or.inl ⟨rfl, u, rfl, rfl⟩)))))
theorem rt_B : TuB t L (fun m o p r => RN2 m o p r) := by
  refine ⟨fun o p W o6 ho => trivial, fun o p f W lo H ho => trivial, fun o p p1 s W lo H nb ho => trivial, fun o p p1 s W lo H b ho => ?_⟩
  obtain ⟨⟨a, b⟩, c⟩ := H (by omega)
  exact ⟨⟨a, fun u => (b u).le (by show u.length + (4 * (6 - (o + 1)) + 6) ≤ u.length + (4 * (6 - o) + 4); omega)⟩, fun _ _ => c (by decide) (by decide)⟩
theorem rt_S : TuS t L (fun m o p r => RN2 m o p r) := by
  refine ⟨fun o p W ho => ?_, fun o p f nb G ho => trivial, fun o p p1 s1 nb G nn ho => trivial, fun o p p1 s1 x f nb G hx bx G2 ho => trivial, fun o p p1 s1 x p2 s2 nb G hx bx G2 ho => ?_⟩
  · exact ⟨⟨m1 (by unfold qR; decide), fun u => Run.one (by show u.length ≤ u.length + (4 * (6 - o) + 4); omega) (Or.inr (Or.inl ⟨rfl, rfl⟩))⟩, fun _ _ => by simp⟩
  · obtain ⟨⟨a1, b1⟩, -⟩ := G (RN 1) rn_rul ho
    obtain ⟨⟨a2, b2⟩, -⟩ := G2 (RN 1) rn_rul ho
    have xd := (by unfold qR; decide : ∀ x ∈ cmW, qR x.2.1 x.2.2 ∧ -9 ≤ x.2.1 ∧ x.2.1 ≤ -7) x hx
    refine ⟨⟨m2 (tk_qR a1) (m2 (tk_qR a2) (m1 xd.1)), fun u => ?_⟩, fun _ _ => by simp⟩
    rw [List.map_append, List.map_append, tk_fst, tk_fst]
    have r1 := b1 u
    have r2 := b2 (false :: u)
    exact (r1.le (by show u.length + (4 * (6 - o) + 3) ≤ u.length + (4 * (6 - o) + 4); omega)).app ((r2.le (by show u.length + 1 + (4 * (6 - o) + 3) ≤ u.length + (4 * (6 - o) + 4); omega)).app (Run.one (by show u.length + 1 + 1 ≤ u.length + (4 * (6 - o) + 4); omega) (Or.inr (Or.inr (Or.inr (Or.inr (Or.inr (Or.inr (Or.inl ⟨xd.2.1, xd.2.2, u, rfl, rfl⟩)))))))))
theorem rt_J {d1 d2 : Nat} {m1 m2' m3 : Nat} {wd : Int} {tok : Int × Int} (ht : qR tok.1 tok.2 ∧ -11 ≤ tok.1 ∧ tok.1 ≤ -10) (h1 : m1 ≠ 2 ∧ m1 ≠ 4) (h2 : m2' ≠ 2 ∧ m2' ≠ 4) (h3 : m3 = 2 ∨ m3 = 4) (hd : ∀ o : Nat, dpt m1 o + 1 ≤ dpt m2' o ∧ dpt m2' o = dpt m3 o ∧ 2 ≤ dpt m3 o) : TuJ t L (fun m o p r => RN2 m o p r) m1 m2' m3 wd tok := by
  have n1 : ¬ (m1 = 2 ∨ m1 = 4) := by omega
  have n2 : ¬ (m2' = 2 ∨ m2' = 4) := by omega
  have jn : ∀ u : List Bool, trn tok.1 (true :: true :: u) (true :: u) := fun u => Or.inr (Or.inr (Or.inr (Or.inr (Or.inr (Or.inr (Or.inr ⟨ht.2.1, ht.2.2, u, rfl, rfl⟩))))))
  refine ⟨fun o p f H ho => trivial, fun o p p1 s1 f H H2 ho => trivial, fun o p p1 s1 p2 s2 H H2 ho => ?_, fun o p W ho => ?_, fun o p f W H ho => trivial, fun o p p1 s1 f W H H2 ho => trivial, fun o p p1 s1 p2 s2 W H H2 ho => ?_⟩
  · obtain ⟨⟨a1, b1⟩, c1⟩ := H ho
    obtain ⟨⟨a2, b2⟩, -⟩ := H2 ho
    refine ⟨⟨m2 a1 a2, fun u => ?_⟩, fun _ _ => fun e => c1 h1.1 h1.2 (List.append_eq_nil_iff.mp e).1⟩
    have r1 := b1 u
    have r2 := b2 u
    rw [if_neg n1] at r1
    rw [if_pos h3] at r2
    have d := hd o
    rw [if_neg n2, List.map_append]
    exact (r1.le (by omega)).app (r2.le (by omega))
  · refine ⟨⟨fun x hx => absurd hx List.not_mem_nil, fun u => ?_⟩, fun a b => absurd h3 (by omega)⟩
    rw [if_pos h3]; rfl
  · obtain ⟨⟨a1, b1⟩, c1⟩ := H ho
    obtain ⟨⟨a2, b2⟩, -⟩ := H2 ho
    refine ⟨⟨m2 (m2 a1 (fun x hx => by rw [List.mem_singleton.mp hx]; exact ht.1)) a2, fun u => ?_⟩, fun a b => absurd h3 (by omega)⟩
    have r1 := b1 (true :: u)
    have r2 := b2 u
    rw [if_neg n1] at r1
    rw [if_pos h3] at r2 ⊢
    have d := hd o
    rw [List.map_append, List.map_append]
    refine Run.app (Run.app (r1.le ?_) (Run.one ?_ (jn u))) r2
    · rw [List.length_cons]; omega
    · rw [List.length_cons, List.length_cons]; omega
theorem rt_ul : Tul t L (fun m o p r => RN2 m o p r) := ⟨rt_F, rt_B, rt_S, rt_J (d1 := 0) (d2 := 0) (by unfold qR; decide) (by decide) (by decide) (by decide) (fun o => ⟨Nat.le_refl _, rfl, by show 2 ≤ 4 * (6 - o) + 5; omega⟩), rt_J (d1 := 0) (d2 := 0) (by unfold qR; decide) (by decide) (by decide) (by decide) (fun o => ⟨Nat.le_refl _, rfl, by show 2 ≤ 4 * (6 - o) + 6; omega⟩)⟩
/-- a test that is told: its steps go through -/
theorem Gt.wff {p p' : Nat} {s : List (Int × Int)} {f : Int → Int} (G : Gt t L 3 0 p (.inr (p', s))) (A : Lst f (s.map Prod.fst)) : wff f (s.map Prod.fst).length true ∧ 0 < s.length ∧ ∀ x ∈ s, qR x.1 x.2 := by
  obtain ⟨⟨a, b⟩, c⟩ := G (fun m o p r => RN2 m o p r) rt_ul (by omega)
  have r := b []
  rw [if_neg (by decide)] at r
  refine ⟨r.wff (by decide) A, ?_, a⟩
  have := c (by decide) (by decide)
  cases s with
  | nil => exact absurd rfl this
  | cons x l => exact Nat.succ_pos _
/-! bounds of places -/
theorem fb_tul : Tul t L (fun _ _ p (res : RL) => FB L p res) := by
  have lt : ∀ {p : Nat} {c : Int}, byL t L (sk t L p) = c → 0 ≤ c → sk t L p + 1 ≤ L := fun b hc => byL_lt b hc
  have le : ∀ {p : Nat}, p ≤ L → 0 ≤ (sk t L p : Int) ∧ (sk t L p : Int) ≤ L := fun hp => by have := sk_le (t := t) hp; omega
  have w3 : ∀ {p : Nat} {a : Int}, (slen a).toNat = 3 → wI t L (sk t L p) a → sk t L p + 3 ≤ L := fun e W => by have := W.1; rw [e] at this; exact this
  have l32 : (slen 1032).toNat = 3 := by decide +kernel
  have l33 : (slen 1033).toNat = 3 := by decide +kernel
  have J : ∀ (m1 m2' m3 : Nat) (wd : Int) (tok : Int × Int), TuJ t L (fun _ _ p (res : RL) => FB L p res) m1 m2' m3 wd tok := fun m1 m2' m3 wd tok =>
    ⟨fun _ _ _ a => a, fun _ _ _ _ _ a b hp => b (a hp), fun _ _ _ _ _ _ a b hp => b (a hp), fun _ _ _ hp => sk_le hp, fun _ _ _ W a hp => a W.1, fun _ _ _ _ _ W a b hp => b (a W.1), fun _ _ _ _ _ _ W a b hp => b (a W.1)⟩
  have cm : ∀ x ∈ cmW, 0 ≤ x.1 := by decide
  refine ⟨⟨fun _ _ _ _ hp => le hp, fun _ _ _ W _ a hp => a (w3 l32 W), fun _ _ _ _ W _ a hp => a (w3 l32 W)⟩, ⟨fun _ _ _ _ hp => le hp, fun _ _ _ b _ a hp => a (lt b (by decide)), fun _ _ _ _ b _ a _ hp => le (a (lt b (by decide))), fun _ _ _ _ b _ a b2 hp => lt b2 (by decide)⟩, ⟨fun _ _ W hp => w3 l33 W, fun _ _ _ _ G hp => G.fb (sk_le hp), fun _ _ _ _ _ G _ hp => le (G.fb (sk_le hp)), fun _ _ _ _ x _ _ G hx bx G2 hp => G2.fb (lt bx (cm x hx)), fun _ _ _ _ x _ _ _ G hx bx G2 hp => G2.fb (lt bx (cm x hx))⟩, J _ _ _ _ _, J _ _ _ _ _⟩
theorem Gt.fb {m o p : Nat} {res : RL} (G : Gt t L m o p res) : FB L p res := G _ fb_tul
end L5J
