/-! the reference reads a river's pieces: it runs to what the class's run told -/
section L4F
variable {w : Wd} {h h' h0 h1 h2 g g' : Hp} {K : Int → Hp → Prop} {t : Int → Int} {L p q : Nat}
theorem yc_asks {a row : Int} {res : PRes Unit} (H : wr a row) (Y : YS t L h p) (D : pWd t L a p res) (k1 : ∀ p', res = .inr (p', ()) → p' = sk t L p + (slen a).toNat → wI t L (sk t L p) a → ∀ h1, Fr h h1 tyL [] → YS t L h1 p' → K 0 h1) (k0 : ∀ f, res = .inl f → ∀ h1, Fr h h1 tyL [] → YB t L h1 f.1 f.2 → K 0 h1) : C_X12_asks w row h K := by
  rcases res with f | ⟨p', u⟩
  · obtain ⟨nw, e⟩ := D
    exact y_wdAsks H Y (fun W => absurd W nw) (fun _ h1 F1 B1 => k0 f rfl h1 F1 (by rw [e]; exact B1))
  · obtain ⟨W, e⟩ := D
    have e : p' = sk t L p + (slen a).toNat := e
    exact y_wdAsks H Y (fun _ h1 F1 Y1 => k1 p' rfl e W h1 F1 (by rw [e]; exact Y1)) (fun nw => absurd W nw)
theorem yc_sign {c : Int} {res : PRes Unit} (hc : 0 ≤ c ∧ c ≤ 255) (nl : ¬ isLt c ∧ ¬ isDg c) (Y : YS t L h p) (D : pSg t L c p res) (k1 : ∀ p', res = .inr (p', ()) → ∀ h1, Fr h h1 tyL [] → YS t L h1 p' → K 0 h1) (k0 : ∀ f, res = .inl f → ∀ h1, Fr h h1 tyL [] → YB t L h1 f.1 f.2 → K 0 h1) : C_X12_asksSign w c h K := by
  rcases res with f | ⟨p', u⟩
  · obtain ⟨nw, e⟩ := D
    exact y_asksSign Y hc nl (fun W => absurd W nw) (fun _ h1 F1 B1 => k0 f rfl h1 F1 (by rw [e]; exact B1))
  · obtain ⟨W, e⟩ := D
    have e : p' = sk t L p + 1 := e
    exact y_asksSign Y hc nl (fun _ _ h1 F1 Y1 => k1 p' rfl h1 F1 (by rw [e]; exact Y1)) (fun nw => absurd W nw)
theorem yc_number {lo hi : Int} {res : PRes Int} (hlo : inR lo) (hhi : inR hi) (Y : YS t L h p) (D : pNum t L lo hi p res) (k1 : ∀ p' v, res = .inr (p', v) → lo ≤ v → v ≤ hi → ∀ h1, Fr h h1 tyL [] → YS t L h1 p' → K v h1) (k0 : ∀ z f, res = .inl f → ∀ h1, Fr h h1 tyL [] → YB t L h1 f.1 f.2 → 0 ≤ z → z ≤ 9999 → K z h1) : C_X12_number w lo hi h K := by
  rcases res with f | ⟨p', v⟩
  · have D : NF t L (sk t L p) lo hi f.1 f.2 := D
    refine y_number hlo hhi Y (fun v n nv => (nv.no D).elim) (fun z kd pl nf h1 F1 B1 z0 z9 => k0 z f rfl h1 F1 ?_ z0 z9)
    obtain ⟨e1, e2⟩ := nf.one D
    rw [← e1, ← e2]; exact B1
  · obtain ⟨n, nv, e⟩ := D
    have e : p' = sk t L p + n := e
    have nv : NV t L (sk t L p) lo hi v n := nv
    have b := nv.2.2.2.2.2.2.2
    refine y_number hlo hhi Y (fun v' n' nv' h1 F1 Y1 => ?_) (fun z kd pl nf => (nv.no nf).elim)
    obtain ⟨rfl, rfl⟩ := nv.one nv'
    exact k1 p' v rfl b.1 b.2 h1 F1 (by rw [e]; exact Y1)
/-- the reference's lists are g's -/
def RN3 (h g : Hp) : Prop := ∀ k : Int, 0 ≤ k → k < 3 → h 93 k = g 93 k ∧ 0 ≤ g 93 k ∧ g 93 k ≤ 10 ∧ ∀ i : Int, 0 ≤ i → i < g 93 k → h 94 (10 * k + i) = g 94 (10 * k + i) ∧ inL (g 94 (10 * k + i))
theorem RN3.fr {Lc : List (Int × Int)} {R : List Int} (A : RN3 h g) (F : Fr h h' Lc R) (ok : okF Lc R [] [93, 94] = true) : RN3 h' g := by
  have q := (F.cell ok).2
  unfold RN3 at A ⊢
  rw [q 93 (by decide), q 94 (by decide)]
  exact A
theorem NAn.one {q n n' : Nat} (A : NAn t L q n) (B : NAn t L q n') : n = n' := by
  obtain ⟨-, -, a1, a2, a3, -⟩ := A
  obtain ⟨-, -, b1, b2, b3, -⟩ := B
  rcases Nat.lt_trichotomy n n' with g | g | g
  · exfalso; apply a3; rw [byL_in (by omega)]; exact b2 n g
  · exact g
  · exfalso; apply b3; rw [byL_in (by omega)]; exact a2 n' g
end L4F
