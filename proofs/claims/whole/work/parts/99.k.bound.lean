/-! a fault's place lies on the tape -/
def FB {α : Type} (L p : Nat) (r : PRes α) : Prop := p ≤ L → Sum.elim (fun f => 0 ≤ f.2 ∧ f.2 ≤ (L : Int)) (fun x => x.1 ≤ L) r
def FBd {α : Type} (L : Nat) (P : Nat → PRes α → Prop) : Prop := ∀ (p : Nat) (r : PRes α), P p r → FB L p r
section L4O
variable {w : Wd} {h h' h0 h1 h2 g g' : Hp} {K : Int → Hp → Prop} {t : Int → Int} {L p q : Nat} {r c : Int}
theorem NV.le {lo hi v : Int} {n : Nat} (A : NV t L q lo hi v n) : q + n ≤ L := A.2.2.2.1
theorem NF.le {lo hi kd pl : Int} (A : NF t L q lo hi kd pl) (hq : q ≤ L) : 0 ≤ pl ∧ pl ≤ L := by
  rcases A with ⟨-, e, -⟩ | ⟨-, e, -, V⟩ | ⟨-, e, -⟩
  · omega
  · have := (V 4 (by omega)).1; omega
  · omega
theorem NAf.le {kd pl : Int} (A : NAf t L q kd pl) (hq : q ≤ L) : 0 ≤ pl ∧ pl ≤ L := by
  rcases A.2 with ⟨e, -⟩ | ⟨e, V⟩ | ⟨e, -⟩
  · omega
  · have := (V 6 (by omega)).1; omega
  · omega
theorem fb_ruL {m1 m2 m3 : Nat} {ops : List (Int × Int)} (ho : ∀ x ∈ ops, 0 ≤ x.1) : RuL t L (fun _ _ p res => FB L p res) m1 m2 m3 ops := by
  have lt : ∀ {p : Nat} {x : Int × Int}, x ∈ ops → byL t L (sk t L p) = x.1 → sk t L p + 1 ≤ L := fun hx b => byL_lt b (ho _ hx)
  exact ⟨fun _ _ _ a => a, fun _ _ _ _ _ a b hp => b (a hp), fun _ _ _ _ _ _ a b hp => b (a hp), fun _ _ _ hp => sk_le hp, fun _ _ _ _ hx b a hp => a (lt hx b), fun _ _ _ _ _ _ hx b a b2 hp => b2 (a (lt hx b)), fun _ _ _ _ _ _ _ hx b a b2 hp => b2 (a (lt hx b))⟩
theorem fb_rul {as : Int} : Rul t L as (fun _ _ p res => FB L p res) := by
  have lt : ∀ {p : Nat} {c : Int}, byL t L (sk t L p) = c → 0 ≤ c → sk t L p + 1 ≤ L := fun b hc => byL_lt b hc
  have le : ∀ {p : Nat}, p ≤ L → 0 ≤ (sk t L p : Int) ∧ (sk t L p : Int) ≤ L := fun hp => by have := sk_le (t := t) hp; omega
  have w3 : ∀ {p : Nat} {x : Int × Int}, x ∈ prW → wI t L (sk t L p) x.1 → sk t L p + 3 ≤ L := fun {p x} hx W => by
    have s : ∀ y ∈ prW, slen y.1 = 3 := by decide +kernel
    have := W.1
    rw [s x hx] at this
    exact this
  refine ⟨⟨fun _ _ _ _ _ nv hp => nv.le, fun _ _ _ _ _ nf hp => nf.le (sk_le hp)⟩, ⟨fun _ _ _ _ hp => le hp, fun _ _ _ b _ a hp => a (lt b (by decide)), fun _ _ _ _ b _ a _ hp => le (a (lt b (by decide))), fun _ _ _ _ b _ a b2 hp => lt b2 (by decide)⟩, ⟨?_, ?_, ?_, ?_, ?_, ?_, ?_⟩, ⟨fun _ _ _ _ W hp => W.1, fun _ _ _ _ _ _ hp => le hp, fun _ _ _ _ _ W _ a hp => a W.1, fun _ _ _ _ _ _ W _ a hp => a W.1, fun _ _ _ _ _ hp => le hp⟩, fb_ruL (by decide), fb_ruL (by decide)⟩
  · exact fun _ _ _ hx W _ hp => le (w3 hx W)
  · exact fun _ _ _ hx W _ _ hp => le (w3 hx W)
  · exact fun _ _ _ _ hx W b _ a hp => a (lt b (by decide))
  · exact fun _ _ _ _ _ hx W b _ a _ hp => le (a (lt b (by decide)))
  · exact fun _ _ _ _ _ _ hx W b _ a b2 a2 hp => a2 (lt b2 (by decide))
  · exact fun _ _ _ _ _ _ _ hx W b _ a b2 a2 _ hp => le (a2 (lt b2 (by decide)))
  · exact fun _ _ _ _ _ _ _ hx W b _ a b2 a2 b3 hp => lt b3 (by decide)
theorem Gr.fb {as : Int} {m o : Nat} {res : RS} (G : Gr t L as m o p res) : FB L p res := G _ fb_rul
theorem pB.fb {α β : Type} {P : Nat → PRes α → Prop} {Q : α → Nat → PRes β → Prop} (a : FBd L P) (b : ∀ x : α, FBd L (Q x)) : FBd L (pB P Q) := fun p r D => by
  rcases D with ⟨f, D, e⟩ | ⟨p1, x, D1, D2⟩
  · subst e; exact a p _ D
  · exact fun hp => b x p1 r D2 (a p _ D1 hp)
theorem FBd.leaf {α : Type} (x : α) : FBd L (fun p r => r = .inr (p, x)) := fun p r e hp => by subst e; exact hp
theorem pNum.fb {lo hi : Int} : FBd L (pNum t L lo hi) := fun p r D hp => by
  rcases r with f | ⟨p', x⟩
  · exact NF.le D (sk_le hp)
  · obtain ⟨n, nv, e⟩ := D
    have e : p' = sk t L p + n := e
    have := nv.le
    show p' ≤ L
    omega
theorem pWd.fb {a : Int} : FBd L (pWd t L a) := fun p r D hp => by
  have := sk_le (t := t) hp
  rcases r with f | ⟨p', x⟩
  · obtain ⟨-, e⟩ := D
    rw [e]
    exact ⟨by show (0 : Int) ≤ (sk t L p : Int); omega, by show (sk t L p : Int) ≤ L; omega⟩
  · obtain ⟨W, e⟩ := D
    have e : p' = sk t L p + (slen a).toNat := e
    have := W.1
    show p' ≤ L
    omega
theorem pSg.fb {a : Int} (ha : 0 ≤ a) : FBd L (pSg t L a) := fun p r D hp => by
  have := sk_le (t := t) hp
  rcases r with f | ⟨p', x⟩
  · obtain ⟨-, e⟩ := D
    rw [e]
    exact ⟨by show (0 : Int) ≤ (sk t L p : Int); omega, by show (sk t L p : Int) ≤ L; omega⟩
  · obtain ⟨W, e⟩ := D
    have e : p' = sk t L p + 1 := e
    have := byL_lt W ha
    show p' ≤ L
    omega
theorem pAsk.fb {k : Int} : FBd L (pAsk t L g k) := fun p r D hp => by
  have := sk_le (t := t) hp
  rcases r with f | ⟨p', x⟩
  · rcases D with nf | ⟨n, -, -, e⟩
    · exact NAf.le nf (sk_le hp)
    · rw [e]
      exact ⟨by show (0 : Int) ≤ (sk t L p : Int); omega, by show (sk t L p : Int) ≤ L; omega⟩
  · obtain ⟨n, N, -, -, e⟩ := D
    have e : p' = sk t L p + n := e
    have := N.2.2.1
    show p' ≤ L
    omega
theorem pNew.fb : FBd L (pNew t L g) := fun p r D hp => by
  have := sk_le (t := t) hp
  rcases r with f | ⟨p', x⟩
  · rcases D with nf | ⟨n, -, -, e⟩
    · exact NAf.le nf (sk_le hp)
    · rw [e]
      exact ⟨by show (0 : Int) ≤ (sk t L p : Int); omega, by show (sk t L p : Int) ≤ L; omega⟩
  · obtain ⟨n, N, -, -, e⟩ := D
    have e : p' = sk t L p + n := e
    have := N.2.2.1
    show p' ≤ L
    omega
theorem fb5 {α : Type} {k : Int} {r : PRes α} (hq : q ≤ L) (e : r = .inl (k, (q : Int))) : FB L p r := fun _ => by
  subst e
  exact ⟨by show (0 : Int) ≤ (q : Int); omega, by show (q : Int) ≤ L; omega⟩
theorem bodyP.fb {x : Int} (hq : q ≤ L) : FBd L (bodyP t L g x q) := fun p r D => by
  have nm : ∀ k, bName t L g k q p r → FB L p r := fun k D => by
    rcases D with ⟨-, e⟩ | ⟨-, D⟩
    · exact fb5 hq e
    · exact pB.fb pNew.fb (fun _ => FBd.leaf _) p r D
  have sm : ∀ a, bSum t L g a q p r → FB L p r := fun a D => by
    rcases D with ⟨-, e⟩ | ⟨-, res, G, e⟩
    · exact fb5 hq e
    · have := G.fb
      subst e
      rcases res with f | x
      · exact this
      · exact this
  have st : ∀ i lo hi, bSet t L g i lo hi p r → FB L p r := fun i lo hi D => pB.fb pNum.fb (fun _ => FBd.leaf _) p r D
  unfold bodyP at D
  split at D
  · exact pB.fb pNum.fb (fun _ => pB.fb pWd.fb (fun _ => pB.fb pNum.fb (fun _ => FBd.leaf _))) p r D
  split at D
  · exact nm _ D
  split at D
  · exact nm _ D
  split at D
  · rcases D with ⟨-, e⟩ | ⟨-, D⟩
    · exact fb5 hq e
    · exact pB.fb pNew.fb (fun _ => pB.fb pWd.fb (fun _ => pB.fb pAsk.fb (fun _ => pB.fb pWd.fb (fun _ => pB.fb pAsk.fb (fun _ => pB.fb pWd.fb (fun _ => pB.fb pNum.fb (fun _ => pB.fb pWd.fb (fun _ => pB.fb pNum.fb (fun _ => pB.fb pWd.fb (fun _ => pB.fb pNum.fb (fun _ => FBd.leaf _))))))))))) p r D
  split at D
  · exact sm _ D
  split at D
  · exact sm _ D
  split at D
  · exact st _ _ _ D
  split at D
  · exact st _ _ _ D
  · exact st _ _ _ D
theorem stP.fb : FBd L (stP t L g) := fun p r D hp => by
  have := sk_le (t := t) hp
  rcases D with ⟨x, -, W, D⟩ | ⟨-, e⟩
  · exact bodyP.fb this _ _ D W.1
  · exact fb5 (p := p) this e hp
theorem rlP.fb : ∀ (k : Nat) (g : Hp), FBd L (rlP t L k g) := by
  intro k
  induction k with
  | zero =>
    intro g p r D hp
    rcases D with ⟨-, e⟩ | ⟨-, e⟩
    · subst e; exact sk_le hp
    · exact fb5 (p := p) (sk_le hp) e hp
  | succ k ih =>
    intro g p r D hp
    rcases D with ⟨-, e⟩ | ⟨-, D⟩
    · subst e; exact sk_le hp
    · exact pB.fb stP.fb (fun _ => pB.fb (pSg.fb (by decide)) (fun _ => ih _)) p r D hp
theorem rdP.fb : FBd L (rdP t L) := pB.fb pWd.fb (fun _ => pB.fb pNum.fb (fun _ => pB.fb (pSg.fb (by decide)) (fun _ => rlP.fb _ _)))
end L4O
