/-! the machine for questions does what the grammar tells -/
def tqM (W : List Int) : Prop := ∀ V y, W = V ++ [y] → y ≠ 3 ∧ y ≠ 4 ∧ y < 60
def tqA (W : List Int) : Prop := ∀ V y, W = V ++ [y] → y ≠ 1 ∧ y ≠ 2 ∧ y ≠ 3 ∧ y ≠ 4 ∧ y < 60
theorem tqA.m {W : List Int} (h : tqA W) : tqM W := fun V y e => (h V y e).2.2
theorem tqA.mk {W : List Int} {m : Int} (hm : 20 ≤ m ∧ m < 60) : tqA (W ++ [m]) := fun V y e => by rw [← snoc_in e]; omega
theorem tqM.a {W : List Int} {m : Int} (hm : m ≤ 2) : tqM (W ++ [m]) := fun V y e => by rw [← snoc_in e]; omega
theorem tqM.l {W : List Int} (h : tqM W) : ∀ V y, W = V ++ [y] → y < 60 := fun V y e => (h V y e).2.2
section L5D
variable (w : Wd) (K : Int → Hp → Prop) (t : Int → Int) (L : Nat) (U : List Int) (sl : Nat)
def qqS : Nat → List Int → List Int → Prop
  | 0, _, q => q = []
  | 1, W, q => q = [] ∧ tqM W
  | 2, W, q => qMl q ∧ tqM W
  | 3, W, q => q = [] ∧ tqA W
  | _, W, q => qAl q ∧ tqA W
def qST : Nat → Hp → Prop
  | 2, h => qAF w K h
  | 4, h => qAF w K h
  | _, h => qBG w K h
def qFN : Nat → Hp → Prop
  | 0, h => qEP w K t L h
  | _, h => qAF w K h
def qSI (m o p : Nat) (f : Int × Int) : Prop := ∀ (a : Nat) (W C q : List Int) (h : Hp), RQ t L U a o (W ++ q) C h → C.length + (U ++ (W ++ q)).length + sl + 1 ≤ a → sk t L a = sk t L p → qqS m W q → (∀ h', YB t L h' f.1 f.2 → QQ h h' → K 0 (hu h' 68 91 0)) → qST w K m h
def qSO (m o p : Nat) (r : Nat × List Int) : Prop := nop t L m p r.1 ∧ ∀ (a : Nat) (W C q : List Int) (h : Hp), RQ t L U a o (W ++ q) C h → C.length + (U ++ (W ++ q)).length + sl + 1 ≤ a → sk t L a = sk t L p → qqS m W q → (∀ (a' : Nat) (q' C' : List Int) (h' : Hp), RQ t L U a' o (W ++ q') C' h' → C'.length + (U ++ (W ++ q')).length + sl + 1 ≤ a' → sk t L a' = sk t L r.1 → qE m q' → C' ++ q'.reverse = C ++ q.reverse ++ r.2.map cdQ → QQ h h' → qFN w K t L m h') → qST w K m h
def qSM (m o p : Nat) (res : RS) : Prop := o ≤ 6 → Sum.elim (qSI w K t L U sl m o p) (qSO w K t L U sl m o p) res
variable {w K t L U sl}
theorem lq_wds : ∀ x ∈ lfW 1, x.1 ∈ wdq ∧ x.1 ≠ 1011 ∧ x.1 ≠ 1012 ∧ x.1 ≠ 1016 ∧ x.1 ≠ 1008 := by decide
theorem lq_one : ∀ x ∈ lfW 1, ∀ y ∈ lfW 1, x.1 = y.1 → x = y := by decide
theorem qtopE {a o : Nat} {W C q : List Int} {h : Hp} (e1 : q = []) (R : RQ t L U a o (W ++ q) C h) (b : C.length + (U ++ (W ++ q)).length + sl + 1 ≤ a) (tp : ∀ V y, W = V ++ [y] → y < 60) (k : qAF w K h) : qEP w K t L h := by
  have l := R.le
  subst e1
  rw [List.append_nil] at R b
  exact qEP.top R (by omega) tp k
theorem qm_ruN : RuN t L (qSM w K t L U sl) := by
  have no : ∀ {q : Nat} {x : Int}, isDg (byL t L q) → x ∈ wdq → ¬ wI t L q x := fun dg hx W => by have := W.lt (wdq_ok _ hx); omega
  refine ⟨fun o p v n dg nv ho => ⟨trivial, fun a W C q h R b s e k => ?_⟩, fun o p kd pl dg nf ho a W C q h R b s e k => ?_⟩
  all_goals
    obtain rfl : q = [] := e
    rw [List.append_nil] at R b
    have l := R.le
    show qBG w K h
  · rw [← s] at dg nv
    refine yq_bgn R (fun c => absurd c (by omega)) (fun _ c => absurd c (fun x => x.elim (no dg (by decide)) (no dg (by decide)))) (fun _ r y hy Wy => absurd Wy (no dg ((by decide : ∀ z ∈ [((3 : Int), (1016 : Int)), (4, 1008)], z.2 ∈ wdq) (r, y) hy))) (fun _ _ _ _ _ h1 R1 S1 => yq_leaf R1 (sk_sk ..) (by omega) (fun v' n' lf h2 R2 S2 => ?_) (fun kd pl _ nf => (nv.no nf).elim))
    rcases lf with ⟨x, hx, wx, -⟩ | ⟨-, u, nu, eu⟩
    · exact absurd wx (no dg (lq_wds x hx).1)
    · obtain ⟨rfl, rfl⟩ := nv.one nu
      have n1 := nv.2.1
      have cv : cdQ v = 1000 + v := by unfold cdQ; rw [if_pos nv.2.2.2.2.2.2.2.1]; omega
      refine k _ [] _ h2 (by rw [List.append_nil]; exact R2) (by simp only [List.length_append, List.length_singleton, List.length_nil] at b ⊢; omega) (by rw [s]) rfl ?_ (S1.tr S2)
      simp [cv, eu]
  · rw [← s] at dg nf
    refine yq_bgn R (fun c => absurd c (by omega)) (fun _ c => absurd c (fun x => x.elim (no dg (by decide)) (no dg (by decide)))) (fun _ r y hy Wy => absurd Wy (no dg ((by decide : ∀ z ∈ [((3 : Int), (1016 : Int)), (4, 1008)], z.2 ∈ wdq) (r, y) hy))) (fun _ _ _ _ _ h1 R1 S1 => yq_leaf R1 (sk_sk ..) (by omega) (fun v' n' lf h2 R2 S2 => ?_) (fun kd' pl' _ nf' h2 B2 S2 => k h2 ?_ (S1.tr S2)))
    · rcases lf with ⟨x, hx, wx, -⟩ | ⟨-, u, nu, eu⟩
      · exact absurd wx (no dg (lq_wds x hx).1)
      · exact (nu.no nf).elim
    · obtain ⟨rfl, rfl⟩ := nf.one nf'
      exact B2
theorem qm_ruW : RuW t L 1 (qSM w K t L U sl) := by
  have od : ∀ x ∈ ofW 1, x.1 ∈ wdq ∧ 60 ≤ cdQ x.2 ∧ cdQ x.2 ≤ 61 := by decide
  have ln : ∀ {x : Int}, x ∈ wdq → 0 < (slen x).toNat := fun hx => by have := (wdq_ok _ hx).1; omega
  refine ⟨fun o p x hx wx ho => ⟨trivial, fun a W C q h R b s e k => ?_⟩, fun o p x hx wx o6 ho a W C q h R b s e k => ?_, fun o p x f hx wx lo H ho a W C q h R b s e k => ?_, fun o p x p1 s1 hx wx lo H ho => ⟨trivial, fun a W C q h R b s e k => ?_⟩, fun o p nd nb nw ho a W C q h R b s e k => ?_⟩
  all_goals
    obtain rfl : q = [] := e
    rw [List.append_nil] at R b
    have l := R.le
    show qBG w K h
  · rw [← s] at wx
    have X := lq_wds x hx
    have lt := wx.lt (wdq_ok _ X.1)
    refine yq_bgn R (fun c => absurd c (by omega)) (fun _ c => absurd c (fun y => y.elim (fun y => X.2.1 (wx.eqq y X.1 (by decide))) (fun y => X.2.2.1 (wx.eqq y X.1 (by decide))))) (fun _ r y hy Wy => ?_) (fun _ _ _ _ _ h1 R1 S1 => yq_leaf R1 (sk_sk ..) (by omega) (fun v' n' lf h2 R2 S2 => ?_) (fun kd pl nx => absurd wx (nx x hx)))
    · have yd := (by decide : ∀ z ∈ [((3 : Int), (1016 : Int)), (4, 1008)], z.2 ∈ wdq ∧ (z.2 = 1016 ∨ z.2 = 1008)) (r, y) hy
      have e := wx.eqq Wy X.1 yd.1
      have y2 := yd.2
      have x2 := X.2.2.2
      dsimp only at y2
      omega
    · rcases lf with ⟨y, hy, wy, ev, en⟩ | ⟨nx, -⟩
      · obtain rfl := lq_one x hx y hy (wx.eqq wy X.1 (lq_wds y hy).1)
        have n1 := (wdq_ok _ X.1).1
        refine k _ [] _ h2 (by rw [List.append_nil]; exact R2) (by simp only [List.length_append, List.length_singleton, List.length_nil] at b ⊢; omega) (by rw [s, en]) rfl ?_ (S1.tr S2)
        simp [ev]
      · exact absurd wx (nx x hx)
  · exact yq_of R ho (by omega) hx (by rw [s]; exact wx) (fun lo => absurd lo (by omega)) (fun _ h1 B1 S1 => k h1 (by rw [← s]; exact B1) S1)
  · have O := od x hx
    have n1 := ln O.1
    refine yq_of R ho (by omega) hx (by rw [s]; exact wx) (fun _ h1 R1 S1 => ?_) (fun c => absurd lo (by omega))
    exact H (by omega) (sk t L a + (slen x.1).toNat) (W ++ [cdQ x.2]) C [] h1 (by rw [List.append_nil]; exact R1) (by simp only [List.length_append, List.length_singleton, List.length_nil] at b ⊢; omega) (by rw [s]) rfl (fun h2 B2 S2 => k h2 B2 (S1.tr S2))
  · have O := od x hx
    have n1 := ln O.1
    refine yq_of R ho (by omega) hx (by rw [s]; exact wx) (fun _ h1 R1 S1 => ?_) (fun c => absurd lo (by omega))
    refine (H (by omega)).2 (sk t L a + (slen x.1).toNat) (W ++ [cdQ x.2]) C [] h1 (by rw [List.append_nil]; exact R1) (by simp only [List.length_append, List.length_singleton, List.length_nil] at b ⊢; omega) (by rw [s]) rfl (fun a2 q2 C2 h2 R2 b2 s2' e2 eq2 S2 => ?_)
    obtain rfl : q2 = [] := e2
    have l2 := R2.le
    rw [List.append_nil] at R2 b2
    show qEP w K t L h2
    refine qEP.of R2 O.2.1 (by omega) (by simp only [List.length_append, List.length_singleton] at b2 ⊢; omega) (fun h3 R3 S3 => k a2 [] _ h3 (by rw [List.append_nil]; exact R3) (by simp only [List.length_append, List.length_singleton, List.length_nil] at b2 ⊢; omega) s2' rfl ?_ (S1.tr (S2.tr S3)))
    rw [List.reverse_nil, List.append_nil, List.append_nil] at eq2
    rw [eq2]; simp
  · rw [← s] at nd nb nw k
    refine yq_bgn R (fun c => absurd c nb) (fun _ c => ?_) (fun _ r y hy Wy => ?_) (fun _ _ _ _ _ h1 R1 S1 => yq_leaf R1 (sk_sk ..) (by omega) (fun v' n' lf h2 R2 S2 => ?_) (fun kd' pl' _ nf' h2 B2 S2 => k h2 ?_ (S1.tr S2)))
    · rcases c with c | c
      · exact absurd c (nw (1011, -5) (by simp [prW]))
      · exact absurd c (nw (1012, -6) (by simp [prW]))
    · have := (by decide : ∀ z ∈ [((3 : Int), (1016 : Int)), (4, 1008)], z.2 = 1016 ∨ z.2 = 1008) (r, y) hy
      dsimp only at this
      rcases this with rfl | rfl
      · exact absurd Wy (nw (1016, -13) (List.mem_append_right _ (by decide)))
      · exact absurd Wy (nw (1008, -14) (List.mem_append_right _ (by decide)))
    · rcases lf with ⟨y, hy, wy, ev, en⟩ | ⟨nx, u, nu, eu⟩
      · exact absurd wy (nw y (List.mem_append_left _ (List.mem_append_right _ hy)))
      · exact absurd nu.dg nd
    · obtain ⟨e1, e2⟩ := nf'.one (Or.inl ⟨rfl, rfl, Or.inl nd⟩)
      rw [e1, e2] at B2
      exact B2
theorem qm_ruB : RuB t L (qSM w K t L U sl) := by
  refine ⟨fun o p b4 o6 ho a W C q h R b s e k => ?_, fun o p f b4 lo H ho a W C q h R b s e k => ?_, fun o p p1 s1 b4 lo H nb ho a W C q h R b s e k => ?_, fun o p p1 s1 b4 lo H b5 ho => ⟨trivial, fun a W C q h R b s e k => ?_⟩⟩
  all_goals
    obtain rfl : q = [] := e
    rw [List.append_nil] at R b
    have l := R.le
    show qBG w K h
    rw [← s] at b4
    have b1 : C.length + (U ++ (W ++ [20] ++ [])).length + sl + 1 ≤ sk t L a + 1 := by
      simp only [List.length_append, List.length_singleton, List.length_nil] at b ⊢; omega
  · refine yq_paren R ho (by omega) b4 (fun x => absurd x (by omega)) (fun _ h1 B1 S1 => k h1 (by rw [← s]; exact B1) S1)
  · refine yq_paren R ho (by omega) b4 (fun _ h1 R1 S1 => H (by omega) (sk t L a + 1) (W ++ [20]) C [] h1 (by rw [List.append_nil]; exact R1) b1 (by rw [s]) ⟨rfl, tqA.mk (by decide)⟩ (fun h2 B2 S2 => k h2 B2 (S1.tr S2))) (fun x => absurd lo (by omega))
  · obtain ⟨N, H⟩ := H (by omega)
    refine yq_paren R ho (by omega) b4 (fun _ h1 R1 S1 => H (sk t L a + 1) (W ++ [20]) C [] h1 (by rw [List.append_nil]; exact R1) b1 (by rw [s]) ⟨rfl, tqA.mk (by decide)⟩ (fun a' q' C' h' R' b' s' e' _ S' => ?_)) (fun x => absurd lo (by omega))
    have l' := R'.le
    dsimp only at s' N
    rw [← s'] at nb k
    refine yq_stuck R' (by omega) (qAl.n e') nb (by rw [s']; exact N) (Or.inl rfl) (fun h2 B2 S2 => k h2 B2 (S1.tr (S'.tr S2)))
  · obtain ⟨N, H⟩ := H (by omega)
    refine yq_paren R ho (by omega) b4 (fun _ h1 R1 S1 => H (sk t L a + 1) (W ++ [20]) C [] h1 (by rw [List.append_nil]; exact R1) b1 (by rw [s]) ⟨rfl, tqA.mk (by decide)⟩ (fun a' q' C' h' R' b' s' e' eq S' => ?_)) (fun x => absurd lo (by omega))
    have l' := R'.le
    dsimp only at s' N
    rw [← s'] at b5
    refine yq_close R' (by omega) (qAl.n e') b5 (Or.inl rfl) (fun h2 R2 S2 => k _ [] _ h2 (by rw [List.append_nil]; exact R2) ?_ (by rw [s']) rfl ?_ (S1.tr (S'.tr S2)))
    · rw [if_pos rfl]
      simp only [List.length_append, List.length_singleton, List.length_nil, List.length_reverse] at b' ⊢
      omega
    · rw [if_pos rfl, List.append_nil, List.reverse_nil, List.append_nil, List.append_nil]
      rw [List.reverse_nil, List.append_nil] at eq
      exact eq
theorem qm_ruP : RuP t L (qSM w K t L U sl) := by
  have px : ∀ x ∈ prW, (x.1 = 1011 ∨ x.1 = 1012) ∧ ((if x.1 = 1011 then (21 : Int) else 22) = 21 ∨ (if x.1 = 1011 then (21 : Int) else 22) = 22) ∧ ((if (if x.1 = 1011 then (21 : Int) else 22) + 2 = 20 then ([] : List Int) else if (if x.1 = 1011 then (21 : Int) else 22) + 2 = 23 then [5] else [6]) = [cdQ x.2]) := by decide
  refine ⟨fun o p x hx wx nb ho a W C q h R b s e k => ?_, fun o p x hx wx b4 o6 ho a W C q h R b s e k => ?_, fun o p x f hx wx b4 lo H ho a W C q h R b s e k => ?_, fun o p x p2 s1 hx wx b4 lo H nb ho a W C q h R b s e k => ?_, fun o p x p2 s1 f hx wx b4 lo H b5 H2 ho a W C q h R b s e k => ?_, fun o p x p2 s1 p3 s2 hx wx b4 lo H b5 H2 nb ho a W C q h R b s e k => ?_, fun o p x p2 s1 p3 s2 hx wx b4 lo H b5 H2 b6 ho => ⟨trivial, fun a W C q h R b s e k => ?_⟩⟩
  all_goals
    obtain rfl : q = [] := e
    rw [List.append_nil] at R b
    have l := R.le
    show qBG w K h
    obtain ⟨P1, P2, P3⟩ := px x hx
    have Z := yq_pair0 (w := w) (K := K) R ho (by omega) P1 (by rw [s]; exact wx)
    generalize (if x.1 = 1011 then (21 : Int) else 22) = mk at P2 P3 Z
    have n3 := sk_ge t L (sk t L a + 3)
    rw [s] at Z n3 l
  · exact Z (fun c => absurd c nb) (fun c => absurd c nb) (fun _ h1 B1 S1 => k h1 B1 S1)
  · exact Z (fun _ x => absurd x (by omega)) (fun _ _ h1 B1 S1 => k h1 B1 S1) (fun c => absurd b4 c)
  all_goals
    refine Z (fun _ _ h1 R1 S1 => ?_) (fun _ x => absurd lo (by omega)) (fun c => absurd b4 c)
    have b1 : C.length + (U ++ (W ++ [mk] ++ [])).length + sl + 1 ≤ sk t L (sk t L p + 3) + 1 := by
      simp only [List.length_append, List.length_singleton, List.length_nil] at b ⊢; omega
    have R1' : RQ t L U (sk t L (sk t L p + 3) + 1) (o + 1) (W ++ [mk] ++ []) C h1 := by rw [List.append_nil]; exact R1
    have T1 : qqS 3 (W ++ [mk]) [] := ⟨rfl, tqA.mk (by omega)⟩
  · exact H (by omega) _ (W ++ [mk]) C [] h1 R1' b1 rfl T1 (fun h2 B2 S2 => k h2 B2 (S1.tr S2))
  · refine (H (by omega)).2 _ (W ++ [mk]) C [] h1 R1' b1 rfl T1 (fun a2 q2 C2 h2 R2 b2 s2' e2 eq2 S2 => ?_)
    have N := (H (by omega)).1
    have l2 := R2.le
    dsimp only at s2' N
    rw [← s2'] at nb k
    exact yq_comma R2 (by omega) (qAl.n e2) (by rw [s2']; exact N) P2 (fun c => absurd c nb) (fun _ h3 B3 S3 => k h3 B3 (S1.tr (S2.tr S3)))
  all_goals
    refine (H (by omega)).2 _ (W ++ [mk]) C [] h1 R1' b1 rfl T1 (fun a2 q2 C2 h2 R2 b2 s2' e2 eq2 S2 => ?_)
    have N := (H (by omega)).1
    have l2 := R2.le
    dsimp only at s2' N
    have b5' := b5
    rw [← s2'] at b5'
    refine yq_comma R2 (by omega) (qAl.n e2) (by rw [s2']; exact N) P2 (fun _ h3 R3 S3 => ?_) (fun c => absurd b5' c)
    have b3 : (C2 ++ q2.reverse).length + (U ++ (W ++ [mk + 2] ++ [])).length + sl + 1 ≤ sk t L a2 + 1 := by
      simp only [List.length_append, List.length_singleton, List.length_nil, List.length_reverse] at b2 ⊢
      omega
    have R3' : RQ t L U (sk t L a2 + 1) (o + 1) (W ++ [mk + 2] ++ []) (C2 ++ q2.reverse) h3 := by rw [List.append_nil]; exact R3
    have T3 : qqS 3 (W ++ [mk + 2]) [] := ⟨rfl, tqA.mk (by omega)⟩
    have U3 : QQ h h3 := S1.tr (S2.tr S3)
  · exact H2 (by omega) _ (W ++ [mk + 2]) _ [] h3 R3' b3 (by rw [s2']) T3 (fun h4 B4 S4 => k h4 B4 (U3.tr S4))
  all_goals
    refine (H2 (by omega)).2 _ (W ++ [mk + 2]) _ [] h3 R3' b3 (by rw [s2']) T3 (fun a4 q4 C4 h4 R4 b4' s4' e4 eq4 S4 => ?_)
    have N2 := (H2 (by omega)).1
    have l4 := R4.le
    dsimp only at s4' N2
  · rw [← s4'] at nb k
    exact yq_stuck R4 (by omega) (qAl.n e4) nb (by rw [s4']; exact N2) (by omega) (fun h5 B5 S5 => k h5 B5 (U3.tr (S4.tr S5)))
  · rw [← s4'] at b6
    refine yq_close R4 (by omega) (qAl.n e4) b6 (by omega) (fun h5 R5 S5 => k _ [] _ h5 (by rw [List.append_nil]; exact R5) ?_ (by rw [s4']) rfl ?_ (U3.tr (S4.tr S5)))
    · rw [P3]
      simp only [List.length_append, List.length_singleton, List.length_nil, List.length_reverse] at b4' ⊢
      omega
    · rw [P3]
      rw [List.reverse_nil, List.append_nil] at eq2 eq4
      rw [eq4, eq2]; simp
theorem qm_ruL1 : RuL t L (qSM w K t L U sl) 0 1 2 [(42, -3), (47, -4)] := by
  have opx : ∀ x ∈ [((42 : Int), (-3 : Int)), (47, -4)], (0 ≤ x.1) ∧ (cdQ x.2 = 3 ∨ cdQ x.2 = 4) := by decide
  have tpx : ∀ x ∈ [((42 : Int), (-3 : Int)), (47, -4)], ∀ (W V : List Int) (y : Int), W ++ [cdQ x.2] = V ++ [y] → y < 60 := fun x hx W V y e => by
    have := (opx x hx).2
    rw [← snoc_in e]; omega
  refine ⟨fun o p f H ho a W C q h R b s e k => H ho a W C q h R b s e.1 k, fun o p p1 s1 f H1 H2 ho a W C q h R b s e k => ?_, fun o p p1 s1 p2 s2 H1 H2 ho => ⟨(H2 ho).1, fun a W C q h R b s e k => ?_⟩, fun o p nx ho => ⟨?_, fun a W C q h R b s e k => ?_⟩, fun o p x f hx b4 H ho a W C q h R b s e k => ?_, fun o p x p1 s1 f hx b4 H1 H2 ho a W C q h R b s e k => ?_, fun o p x p1 s1 p2 s2 hx b4 H1 H2 ho => ⟨(H2 ho).1, fun a W C q h R b s e k => ?_⟩⟩
  · exact (H1 ho).2 a W C q h R b s e.1 (fun a1 q1 C1 h1 R1 b1 s1' e1 eq1 S1 => qtopE e1 R1 b1 e.2.l (H2 ho a1 W C1 q1 h1 R1 b1 s1' ⟨Or.inl e1, e.2⟩ (fun h2 B2 S2 => k h2 B2 (S1.tr S2))))
  · exact (H1 ho).2 a W C q h R b s e.1 (fun a1 q1 C1 h1 R1 b1 s1' e1 eq1 S1 => qtopE e1 R1 b1 e.2.l ((H2 ho).2 a1 W C1 q1 h1 R1 b1 s1' ⟨Or.inl e1, e.2⟩ (fun a2 q2 C2 h2 R2 b2 s2' e2 eq2 S2 => k a2 q2 C2 h2 R2 b2 s2' e2 (by rw [eq2, eq1]; simp) (S1.tr S2))))
  · exact ⟨by dsimp only; rw [sk_sk]; exact nx (42, -3) (by simp), by dsimp only; rw [sk_sk]; exact nx (47, -4) (by simp)⟩
  · exact k a q C h R b (by dsimp only; rw [sk_sk]; exact s) e.1 (by simp) QQ.rf
  all_goals
    have l := R.le
    rw [← s] at b4
    have lt := byL_lt b4 (opx x hx).1
    show qAF w K h
    refine yq_opM R (by omega) e.1 (fun V y e' => ⟨(e.2 V y e').1, (e.2 V y e').2.1⟩) hx b4 (fun h1 R1 S1 => ?_)
    have b1 : (C ++ q.reverse).length + (U ++ (W ++ [cdQ x.2] ++ [])).length + sl + 1 ≤ sk t L a + 1 := by
      simp only [List.length_append, List.length_singleton, List.length_nil, List.length_reverse] at b ⊢
      omega
  · exact H ho (sk t L a + 1) (W ++ [cdQ x.2]) _ [] h1 (by rw [List.append_nil]; exact R1) b1 (by rw [s]) rfl (fun h2 B2 S2 => k h2 B2 (S1.tr S2))
  · refine (H1 ho).2 (sk t L a + 1) (W ++ [cdQ x.2]) _ [] h1 (by rw [List.append_nil]; exact R1) b1 (by rw [s]) rfl (fun a2 q2 C2 h2 R2 b2 s2' e2 eq2 S2 => ?_)
    refine qtopE e2 R2 b2 (tpx x hx W) ?_
    obtain rfl : q2 = [] := e2
    rw [List.append_nil] at R2 b2
    exact H2 ho a2 W C2 [cdQ x.2] h2 R2 b2 s2' ⟨(opx x hx).2.elim (fun y => Or.inr (Or.inl (by rw [y]))) (fun y => Or.inr (Or.inr (by rw [y]))), e.2⟩ (fun h3 B3 S3 => k h3 B3 (S1.tr (S2.tr S3)))
  · refine (H1 ho).2 (sk t L a + 1) (W ++ [cdQ x.2]) _ [] h1 (by rw [List.append_nil]; exact R1) b1 (by rw [s]) rfl (fun a2 q2 C2 h2 R2 b2 s2' e2 eq2 S2 => ?_)
    refine qtopE e2 R2 b2 (tpx x hx W) ?_
    obtain rfl : q2 = [] := e2
    rw [List.append_nil] at R2 b2
    refine (H2 ho).2 a2 W C2 [cdQ x.2] h2 R2 b2 s2' ⟨(opx x hx).2.elim (fun y => Or.inr (Or.inl (by rw [y]))) (fun y => Or.inr (Or.inr (by rw [y]))), e.2⟩ (fun a3 q3 C3 h3 R3 b3 s3' e3 eq3 S3 => k a3 q3 C3 h3 R3 b3 s3' e3 ?_ (S1.tr (S2.tr S3)))
    rw [List.reverse_nil, List.append_nil, List.append_nil] at eq2
    rw [eq3, eq2]; simp
theorem qm_ruL2 : RuL t L (qSM w K t L U sl) 1 3 4 [(43, -1), (45, -2)] := by
  have opx : ∀ x ∈ [((43 : Int), (-1 : Int)), (45, -2)], (0 ≤ x.1) ∧ (x.1 ≠ 42 ∧ x.1 ≠ 47) ∧ (cdQ x.2 = 1 ∨ cdQ x.2 = 2) := by decide
  have qx : ∀ x ∈ [((43 : Int), (-1 : Int)), (45, -2)], ∀ q1, qMl q1 → qAl ([cdQ x.2] ++ q1) := fun x hx q1 h1 => ⟨[cdQ x.2], q1, rfl, (opx x hx).2.2.elim (fun y => Or.inr (Or.inl (by rw [y]))) (fun y => Or.inr (Or.inr (by rw [y]))), h1⟩
  refine ⟨fun o p f H ho a W C q h R b s e k => H ho a W C q h R b s ⟨e.1, e.2.m⟩ k, fun o p p1 s1 f H1 H2 ho a W C q h R b s e k => ?_, fun o p p1 s1 p2 s2 H1 H2 ho => ⟨?_, fun a W C q h R b s e k => ?_⟩, fun o p nx ho => ⟨?_, fun a W C q h R b s e k => ?_⟩, fun o p x f hx b4 H ho a W C q h R b s e k => ?_, fun o p x p1 s1 f hx b4 H1 H2 ho a W C q h R b s e k => ?_, fun o p x p1 s1 p2 s2 hx b4 H1 H2 ho => ⟨?_, fun a W C q h R b s e k => ?_⟩⟩
  · exact (H1 ho).2 a W C q h R b s ⟨e.1, e.2.m⟩ (fun a1 q1 C1 h1 R1 b1 s1' e1 eq1 S1 => H2 ho a1 W C1 q1 h1 R1 b1 s1' ⟨qMl.a e1, e.2⟩ (fun h2 B2 S2 => k h2 B2 (S1.tr S2)))
  · have N1 := (H1 ho).1
    have N2 := (H2 ho).1
    have N3 := N2.2 N1.1 N1.2
    exact ⟨N3.1, N3.2, N2.1.1, N2.1.2⟩
  · exact (H1 ho).2 a W C q h R b s ⟨e.1, e.2.m⟩ (fun a1 q1 C1 h1 R1 b1 s1' e1 eq1 S1 => (H2 ho).2 a1 W C1 q1 h1 R1 b1 s1' ⟨qMl.a e1, e.2⟩ (fun a2 q2 C2 h2 R2 b2 s2' e2 eq2 S2 => k a2 q2 C2 h2 R2 b2 s2' e2 (by rw [eq2, eq1]; simp) (S1.tr S2)))
  · refine ⟨⟨by dsimp only; rw [sk_sk]; exact nx (43, -1) (by simp), by dsimp only; rw [sk_sk]; exact nx (45, -2) (by simp)⟩, fun c1 c2 => ?_⟩
    dsimp only
    rw [sk_sk]; exact ⟨c1, c2⟩
  · exact k a q C h R b (by dsimp only; rw [sk_sk]; exact s) e.1 (by simp) QQ.rf
  · have l := R.le
    rw [← s] at b4
    have lt := byL_lt b4 (opx x hx).1
    show qAF w K h
    refine yq_opA R (by omega) e.1.n (fun V y e' => ⟨(e.2 V y e').1, (e.2 V y e').2.1, (e.2 V y e').2.2.1, (e.2 V y e').2.2.2.1⟩) hx b4 (fun h1 R1 S1 => ?_)
    have b1 : (C ++ q.reverse).length + (U ++ (W ++ [cdQ x.2] ++ [])).length + sl + 1 ≤ sk t L a + 1 := by
      simp only [List.length_append, List.length_singleton, List.length_nil, List.length_reverse] at b ⊢
      omega
    have le2 : cdQ x.2 ≤ 2 := by have := (opx x hx).2.2; omega
    exact H ho (sk t L a + 1) (W ++ [cdQ x.2]) _ [] h1 (by rw [List.append_nil]; exact R1) b1 (by rw [s]) ⟨rfl, tqM.a le2⟩ (fun h2 B2 S2 => k h2 B2 (S1.tr S2))
  · have l := R.le
    rw [← s] at b4
    have lt := byL_lt b4 (opx x hx).1
    show qAF w K h
    refine yq_opA R (by omega) e.1.n (fun V y e' => ⟨(e.2 V y e').1, (e.2 V y e').2.1, (e.2 V y e').2.2.1, (e.2 V y e').2.2.2.1⟩) hx b4 (fun h1 R1 S1 => ?_)
    have b1 : (C ++ q.reverse).length + (U ++ (W ++ [cdQ x.2] ++ [])).length + sl + 1 ≤ sk t L a + 1 := by
      simp only [List.length_append, List.length_singleton, List.length_nil, List.length_reverse] at b ⊢
      omega
    have le2 : cdQ x.2 ≤ 2 := by have := (opx x hx).2.2; omega
    refine (H1 ho).2 (sk t L a + 1) (W ++ [cdQ x.2]) _ [] h1 (by rw [List.append_nil]; exact R1) b1 (by rw [s]) ⟨rfl, tqM.a le2⟩ (fun a2 q2 C2 h2 R2 b2 s2' e2 eq2 S2 => ?_)
    rw [List.append_assoc] at R2 b2
    exact H2 ho a2 W C2 ([cdQ x.2] ++ q2) h2 R2 b2 s2' ⟨qx x hx q2 e2, e.2⟩ (fun h3 B3 S3 => k h3 B3 (S1.tr (S2.tr S3)))
  · have N1 := (H1 ho).1
    have N2 := (H2 ho).1
    exact ⟨N2.1, fun _ _ => N2.2 N1.1 N1.2⟩
  · have l := R.le
    rw [← s] at b4
    have lt := byL_lt b4 (opx x hx).1
    show qAF w K h
    refine yq_opA R (by omega) e.1.n (fun V y e' => ⟨(e.2 V y e').1, (e.2 V y e').2.1, (e.2 V y e').2.2.1, (e.2 V y e').2.2.2.1⟩) hx b4 (fun h1 R1 S1 => ?_)
    have b1 : (C ++ q.reverse).length + (U ++ (W ++ [cdQ x.2] ++ [])).length + sl + 1 ≤ sk t L a + 1 := by
      simp only [List.length_append, List.length_singleton, List.length_nil, List.length_reverse] at b ⊢
      omega
    have le2 : cdQ x.2 ≤ 2 := by have := (opx x hx).2.2; omega
    refine (H1 ho).2 (sk t L a + 1) (W ++ [cdQ x.2]) _ [] h1 (by rw [List.append_nil]; exact R1) b1 (by rw [s]) ⟨rfl, tqM.a le2⟩ (fun a2 q2 C2 h2 R2 b2 s2' e2 eq2 S2 => ?_)
    rw [List.append_assoc] at R2 b2
    refine (H2 ho).2 a2 W C2 ([cdQ x.2] ++ q2) h2 R2 b2 s2' ⟨qx x hx q2 e2, e.2⟩ (fun a3 q3 C3 h3 R3 b3 s3' e3 eq3 S3 => k a3 q3 C3 h3 R3 b3 s3' e3 ?_ (S1.tr (S2.tr S3)))
    rw [List.reverse_nil, List.append_nil] at eq2
    rw [eq3, List.reverse_append, List.reverse_singleton, ← List.append_assoc, eq2]; simp
theorem qm_rul : Rul t L 1 (qSM w K t L U sl) := ⟨qm_ruN, qm_ruB, qm_ruP, qm_ruW, qm_ruL1, qm_ruL2⟩
end L5D
