/-! the reference reads names of a river: what it runs to -/
section L4G
variable {w : Wd} {h h' h0 h1 h2 g g' : Hp} {K : Int → Hp → Prop} {t : Int → Int} {L p q : Nat}
theorem NAn.no {q n : Nat} {kd pl : Int} (A : NAn t L q n) (B : NAf t L q kd pl) : False := by
  obtain ⟨n1, n6, nL, V, nl, no⟩ := A
  obtain ⟨-, B⟩ := B
  rcases B with ⟨-, c⟩ | ⟨-, c⟩ | ⟨-, a, ha, W⟩
  · exact c (by rw [byL_in (by omega)]; exact V 0 (by omega))
  · exact nl (by rw [byL_in (c n (by omega)).1]; exact (c n (by omega)).2)
  · exact no a ha W
theorem NAf.one {q : Nat} {kd pl kd' pl' : Int} (A : NAf t L q kd pl) (B : NAf t L q kd' pl') : kd = kd' ∧ pl = pl' := by
  obtain ⟨a, A⟩ := A
  obtain ⟨b, B⟩ := B
  have e12 : ¬ isLt (byL t L q) → (∀ i : Nat, i < 7 → q + i < L ∧ isLt (t (q + i : Nat))) → False := fun n c => n (by rw [byL_in (show q < L by have := (c 0 (by omega)).1; omega)]; exact (c 0 (by omega)).2)
  have e23 : (∃ a ∈ ows, wI t L q a) → (∀ i : Nat, i < 7 → q + i < L ∧ isLt (t (q + i : Nat))) → False := fun ⟨a, ha, W⟩ c => by
    have s6 := (ows_ok a ha).2
    exact W.2.2.1 (by rw [byL_in (c (slen a).toNat (by omega)).1]; exact (c (slen a).toNat (by omega)).2)
  refine ⟨a.trans b.symm, ?_⟩
  rcases A with ⟨A, cA⟩ | ⟨A, cA⟩ | ⟨A, cA⟩ <;> rcases B with ⟨B, cB⟩ | ⟨B, cB⟩ | ⟨B, cB⟩ <;> first
    | exact A.trans B.symm
    | exact (e12 cA cB).elim
    | exact (e12 cB cA).elim
    | exact (e23 cA cB).elim
    | exact (e23 cB cA).elim
theorem yo_number {lo hi v : Int} {p' : Nat} (hlo : inR lo) (hhi : inR hi) (Y : YS t L h p) (D : pNum t L lo hi p (.inr (p', v))) (k : lo ≤ v → v ≤ hi → ∀ h1, Fr h h1 tyL [] → YS t L h1 p' → K v h1) : C_X12_number w lo hi h K :=
  yc_number hlo hhi Y D (fun p2 v2 e l1 l2 h1 F1 Y1 => by
    have e := Sum.inr.inj e
    have e1 : p' = p2 := congrArg Prod.fst e
    have e2 : v = v2 := congrArg Prod.snd e
    subst e1; subst e2; exact k l1 l2 h1 F1 Y1) (fun z f e => nomatch e)
theorem yf_number {lo hi : Int} {f : Int × Int} (hlo : inR lo) (hhi : inR hi) (Y : YS t L h p) (D : pNum t L lo hi p (.inl f)) (k : ∀ z h1, Fr h h1 tyL [] → YB t L h1 f.1 f.2 → 0 ≤ z → z ≤ 9999 → K z h1) : C_X12_number w lo hi h K :=
  yc_number hlo hhi Y D (fun p2 v2 e => nomatch e) (fun z f2 e h1 F1 B1 z0 z9 => by
    have e := Sum.inl.inj e
    subst e; exact k z h1 F1 B1 z0 z9)
theorem yo_asks {a row : Int} {p' : Nat} {u : Unit} (H : wr a row) (Y : YS t L h p) (D : pWd t L a p (.inr (p', u))) (k : p' = sk t L p + (slen a).toNat → wI t L (sk t L p) a → ∀ h1, Fr h h1 tyL [] → YS t L h1 p' → K 0 h1) : C_X12_asks w row h K :=
  yc_asks H Y D (fun p2 e e2 W h1 F1 Y1 => by
    have e1 : p' = p2 := congrArg Prod.fst (Sum.inr.inj e)
    subst e1; exact k e2 W h1 F1 Y1) (fun f e => nomatch e)
theorem yf_asks {a row : Int} {f : Int × Int} (H : wr a row) (Y : YS t L h p) (D : pWd t L a p (.inl f)) (k : ∀ h1, Fr h h1 tyL [] → YB t L h1 f.1 f.2 → K 0 h1) : C_X12_asks w row h K :=
  yc_asks H Y D (fun p2 e => nomatch e) (fun f2 e h1 F1 B1 => by
    have e := Sum.inl.inj e
    subst e; exact k h1 F1 B1)
theorem yo_sign {c : Int} {p' : Nat} {u : Unit} (hc : 0 ≤ c ∧ c ≤ 255) (nl : ¬ isLt c ∧ ¬ isDg c) (Y : YS t L h p) (D : pSg t L c p (.inr (p', u))) (k : ∀ h1, Fr h h1 tyL [] → YS t L h1 p' → K 0 h1) : C_X12_asksSign w c h K :=
  yc_sign hc nl Y D (fun p2 e h1 F1 Y1 => by
    have e1 : p' = p2 := congrArg Prod.fst (Sum.inr.inj e)
    subst e1; exact k h1 F1 Y1) (fun f e => nomatch e)
theorem yf_sign {c : Int} {f : Int × Int} (hc : 0 ≤ c ∧ c ≤ 255) (nl : ¬ isLt c ∧ ¬ isDg c) (Y : YS t L h p) (D : pSg t L c p (.inl f)) (k : ∀ h1, Fr h h1 tyL [] → YB t L h1 f.1 f.2 → K 0 h1) : C_X12_asksSign w c h K :=
  yc_sign hc nl Y D (fun p2 e => nomatch e) (fun f2 e h1 F1 B1 => by
    have e := Sum.inl.inj e
    subst e; exact k h1 F1 B1)
theorem yb_newName7 {v kd pl : Int} (B : YB t L h kd pl) (kk : K v h) : ∀ (n : Nat) (k : Int), k = 3 - n → n ≤ 3 → L_X12_newName_7 w v k h K := by
  intro n
  induction n with
  | zero => intro k e hn; exact l_X12_newName_7 ⟨⟨by omega, by omega⟩, fun _ => kk, fun c => absurd (by omega) c⟩
  | succ n ih =>
    intro k e hn
    exact l_X12_newName_7 ⟨⟨by omega, by omega⟩, fun c => absurd c (by omega), fun _ => ⟨B.nz.1, fun _ => ih (k + 1) (by omega) (by omega), fun c => absurd B.nz.2 c⟩⟩
theorem NI.r {k v z : Int} (N : NI g k v z) (b : g 93 k ≤ 10) : inR z := by
  rcases N with ⟨e, -⟩ | ⟨a, b, -⟩
  · omega
  · exact ⟨by omega, by omega⟩
theorem y_newName7 {v : Int} {pl : Nat} (Y : YS t L h p) (G : RN3 h g) (hv : inL v) (e32 : h 68 32 = pl) (k1 : frs g v → K v h) (k0 : ¬ frs g v → ∀ h1, Fr h h1 tyL [] → YB t L h1 3 pl → K v h1) : L_X12_newName_7 w v 0 h K := by
  suffices ∀ (n : Nat) (k : Int), k = 3 - n → n ≤ 3 → (∀ j : Int, 0 ≤ j → j < k → NI g j v (-1)) → L_X12_newName_7 w v k h K from this 3 0 (by omega) (by omega) (fun j j0 j1 => by omega)
  intro n
  induction n with
  | zero => intro k e hn A; exact l_X12_newName_7 ⟨⟨by omega, by omega⟩, fun _ => k1 ⟨A 0 (by omega) (by omega), A 1 (by omega) (by omega), A 2 (by omega) (by omega)⟩, fun c => absurd (by omega) c⟩
  | succ n ih =>
    intro k e hn A
    have Gk := G k (by omega) (by omega)
    refine l_X12_newName_7 ⟨⟨by omega, by omega⟩, fun c => absurd c (by omega), fun _ => ⟨Y.z.1, fun c => absurd Y.z.2 c, fun _ => y_nameOf ⟨by omega, by omega⟩ hv Gk.1 ⟨Gk.2.1, Gk.2.2.1⟩ Gk.2.2.2 (fun z N => ⟨N.r Gk.2.2.1, fun c => ?_, fun c => ?_⟩)⟩⟩
    · subst c
      refine ih (k + 1) (by omega) (by omega) (fun j j0 j1 => ?_)
      by_cases d : j = k
      · rw [d]; exact N
      · exact A j j0 (by omega)
    · rw [e32]
      refine Y.fail ⟨by decide, by decide⟩ (fun h5 F5 B5 => yb_newName7 B5 (k0 (fun f => c ?_) h5 F5 B5) n (k + 1) (by omega) (by omega))
      have : k = 0 ∨ k = 1 ∨ k = 2 := by omega
      rcases this with rfl | rfl | rfl
      · exact N.one f.1
      · exact N.one f.2.1
      · exact N.one f.2.2
theorem yo_newName {v : Int} {p' : Nat} (Y : YS t L h p) (G : RN3 h g) (hg : isLt (byL t L (sk t L p)) → ¬ GL t (sk t L p)) (D : pNew t L g p (.inr (p', v))) (k : inL v → ∀ h1, Fr h h1 tnL [] → YS t L h1 p' → K v h1) : C_X12_newName w h K := by
  obtain ⟨n', N', fr, ev, ep⟩ := D
  have ev2 : v = vN t (sk t L p) n' := ev
  have ep2 : p' = sk t L p + n' := ep
  clear ev ep
  refine c_X12_newName (y_name Y hg (fun n N h2 F2 Y2 e32 => ?_) (fun kd pl nf h2 F2 B2 => (N'.no nf).elim))
  have e := N.one N'
  subst e
  subst ev2
  have G2 := G.fr F2 (by decide)
  refine y_newName7 Y2 G2 N.r.r.2.1 e32 (fun _ => k N.r.r.2.1 h2 F2 (by rw [ep2]; exact Y2)) (fun nf => absurd fr nf)
theorem yf_newName {f : Int × Int} (Y : YS t L h p) (G : RN3 h g) (hg : isLt (byL t L (sk t L p)) → ¬ GL t (sk t L p)) (D : pNew t L g p (.inl f)) (k : ∀ z h1, Fr h h1 tnL [] → YB t L h1 f.1 f.2 → K z h1) : C_X12_newName w h K := by
  have D : NAf t L (sk t L p) f.1 f.2 ∨ ∃ n, NAn t L (sk t L p) n ∧ ¬ frs g (vN t (sk t L p) n) ∧ f = (3, (sk t L p : Int)) := D
  refine c_X12_newName (y_name Y hg (fun n N h2 F2 Y2 e32 => ?_) (fun kd pl nf h2 F2 B2 => ?_))
  · rcases D with nf | ⟨n', N', fr, ef⟩
    · exact (N.no nf).elim
    · have e := N.one N'
      subst e
      have G2 := G.fr F2 (by decide)
      refine y_newName7 Y2 G2 N.r.r.2.1 e32 (fun c => absurd c fr) (fun _ h5 F5 B5 => k _ h5 ((F2.trans F5).into (by decide)) (by rw [ef]; exact B5))
  · rcases D with nf2 | ⟨n', N', -⟩
    · obtain ⟨e1, e2⟩ := nf.one nf2
      exact yb_newName7 B2 (k 0 h2 F2 (by rw [← e1, ← e2]; exact B2)) 3 0 (by omega) (by omega)
    · exact (N'.no nf).elim
theorem yb_oneOf {k kd pl : Int} (hk : 0 ≤ k ∧ k < 3) (G : RN3 h g) (B : YB t L h kd pl) (kk : K 0 h) : C_X12_oneOf w k h K := by
  have Gk := G k hk.1 hk.2
  refine c_X12_oneOf (yb_name B (y_nameOf hk ⟨by decide, by decide⟩ Gk.1 ⟨Gk.2.1, Gk.2.2.1⟩ Gk.2.2.2 (fun z N => ⟨B.nz.1, fun _ => ⟨B.nz.1, fun _ => kk, fun c => absurd B.nz.2 c⟩, fun c => absurd B.nz.2 c⟩)))
theorem yo_oneOf {k z : Int} {p' : Nat} (hk : 0 ≤ k ∧ k < 3) (Y : YS t L h p) (G : RN3 h g) (hg : isLt (byL t L (sk t L p)) → ¬ GL t (sk t L p)) (D : pAsk t L g k p (.inr (p', z))) (kk : 0 ≤ z → z < g 93 k → ∀ h1, Fr h h1 tnL [] → YS t L h1 p' → K z h1) : C_X12_oneOf w k h K := by
  have zb := pAsk.bd D
  obtain ⟨n', N', nz', z1, ep⟩ := D
  have ep2 : p' = sk t L p + n' := ep
  have z2 : z ≠ -1 := z1
  have nz2 : NI g k (vN t (sk t L p) n') z := nz'
  clear ep z1 nz'
  refine c_X12_oneOf (y_name Y hg (fun n N h2 F2 Y2 e32 => ?_) (fun kd pl nf h2 F2 B2 => (N'.no nf).elim))
  have e := N.one N'
  subst e
  have Gk := (G.fr F2 (by decide)) k hk.1 hk.2
  refine y_nameOf hk N.r.r.2.1 Gk.1 ⟨Gk.2.1, Gk.2.2.1⟩ Gk.2.2.2 (fun x nx => ?_)
  have ex : x = z := nx.one nz2
  subst ex
  exact ⟨Y2.z.1, fun c => absurd Y2.z.2 c, fun _ => ⟨nx.r Gk.2.2.1, fun c => ⟨Y2.z.1, fun c2 => absurd Y2.z.2 c2, fun _ => kk zb.1 zb.2 h2 F2 (by rw [ep2]; exact Y2)⟩, fun c => absurd z2 c⟩⟩
theorem yf_oneOf {k : Int} {f : Int × Int} (hk : 0 ≤ k ∧ k < 3) (Y : YS t L h p) (G : RN3 h g) (hg : isLt (byL t L (sk t L p)) → ¬ GL t (sk t L p)) (D : pAsk t L g k p (.inl f)) (kk : ∀ h1, Fr h h1 tnL [] → YB t L h1 f.1 f.2 → K 0 h1) : C_X12_oneOf w k h K := by
  have D : NAf t L (sk t L p) f.1 f.2 ∨ ∃ n, NAn t L (sk t L p) n ∧ NI g k (vN t (sk t L p) n) (-1) ∧ f = (3, (sk t L p : Int)) := D
  refine c_X12_oneOf (y_name Y hg (fun n N h2 F2 Y2 e32 => ?_) (fun kd pl nf h2 F2 B2 => ?_))
  · have Gk := (G.fr F2 (by decide)) k hk.1 hk.2
    rcases D with nf | ⟨n', N', fr, ef⟩
    · exact (N.no nf).elim
    · have e := N.one N'
      subst e
      refine y_nameOf hk N.r.r.2.1 Gk.1 ⟨Gk.2.1, Gk.2.2.1⟩ Gk.2.2.2 (fun x nx => ?_)
      have ex : x = -1 := nx.one fr
      subst ex
      refine ⟨Y2.z.1, fun c => absurd Y2.z.2 c, fun _ => ⟨⟨by decide, by decide⟩, fun c => absurd rfl c, fun _ => ?_⟩⟩
      rw [e32]
      exact Y2.fail ⟨by decide, by decide⟩ (fun h5 F5 B5 => ⟨B5.nz.1, fun _ => kk h5 ((F2.trans F5).into (by decide)) (by rw [ef]; exact B5), fun c => absurd B5.nz.2 c⟩)
  · have Gk := (G.fr F2 (by decide)) k hk.1 hk.2
    rcases D with nf2 | ⟨n', N', -⟩
    · obtain ⟨e1, e2⟩ := nf.one nf2
      exact y_nameOf hk ⟨by decide, by decide⟩ Gk.1 ⟨Gk.2.1, Gk.2.2.1⟩ Gk.2.2.2 (fun x nx => ⟨B2.nz.1, fun _ => ⟨B2.nz.1, fun _ => kk h2 F2 (by rw [← e1, ← e2]; exact B2), fun c => absurd B2.nz.2 c⟩, fun c => absurd B2.nz.2 c⟩)
    · exact (N'.no nf).elim
end L4G
