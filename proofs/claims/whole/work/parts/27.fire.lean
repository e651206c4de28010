def Tn (x : ShT) (v : Nat) : Nat → ShT
  | 0 => x
  | k + 1 => Ty (Tn x v k) v
theorem Inv_Tn {x : ShT} {M v : Nat} (hI : Inv x M) (hv : v < 6) : ∀ k, M + k ≤ 200000 → Inv (Tn x v k) (M + k) := by
  intro k
  induction k with
  | zero => intro _; exact hI
  | succ k ih => intro h; exact Inv_Ty (M := M + k) (ih (by omega)) (by omega) hv
theorem fire_eq {bo : BoT} {ex : ExT} {x : ShT} {M v n : Nat} (hI : Inv x M) (hM : M + n ≤ 200000) (hv : v < 6) (hn : n ≤ 200) : ∃ r, fX2_fire bo ex x (nI v) (nI n) = some r ∧ r.2 = Tn x v n ∧ (0 < n → Exr (Tn x v (n - 1)) v r.1) := by
  unfold fX2_fire
  refine lp_rel (fun k (s : ExT × ShT × Int32 × Int32 × Int32) => s.2.1 = Tn x v k ∧ s.2.2.1 = nI v ∧ s.2.2.2.1 = nI n ∧ s.2.2.2.2 = nI k ∧ (0 < k → Exr (Tn x v (k - 1)) v s.1)) (fun (r : ExT × ShT) => r.2 = Tn x v n ∧ (0 < n → Exr (Tn x v (n - 1)) v r.1)) n (fun k s K hk hP => ?_) (fun s K hP => ?_) 2000 0 _ (by omega) (by omega) ⟨rfl, rfl, rfl, rfl, fun h => absurd h (by omega)⟩ <;> obtain ⟨a, b, c, d, e⟩ := s <;> obtain ⟨h1, h2, h3, h4, h5⟩ := hP <;> dsimp only at h1 h2 h3 h4 h5 <;> subst h1 h2 h3 h4 <;> unfold fX2_fire_l3 <;> dsimp only
  · have hi := Inv_Tn hI hv k (by omega)
    obtain ⟨ex', e1, e2⟩ := expose_eq (ex := a) hi hv
    rw [if_neg (nI_ge hk (by omega)), e1, Option.bind_some, tally_eq hi hv e2, Option.bind_some, ← nI_succ]
    exact ⟨(ex', Tn x v (k + 1), nI v, nI n, nI (k + 1)), ⟨rfl, rfl, rfl, rfl, fun _ => e2⟩, rfl⟩
  · rw [if_pos (nI_le (Nat.le_refl _) (by omega))]
    exact ⟨_, rfl, rfl, h5⟩
theorem shots_eq {mo : MoT} {x : ShT} {fs le co li : Nat → Int32} {M v n : Nat} (hR : Rel x fs 0) (hI : Inv x M) (hM : M + n ≤ 200000) (hv : v < 6) (hn : n ≤ 200) : ∃ r, fX3_shots mo fs le co li (nI v) (nI n) = some r ∧ Rel (Tn x v n) r.1 0 ∧ (0 < n → ∀ j, j < 24 → r.2.2.2 j = Lg (Tn x v (n - 1)) v j) := by
  unfold fX3_shots
  refine lp_rel (fun k (s : Fn × Fn × Fn × Fn × Int32 × Int32 × Int32) => Rel (Tn x v k) s.1 0 ∧ s.2.2.2.2.1 = nI v ∧ s.2.2.2.2.2.1 = nI n ∧ s.2.2.2.2.2.2 = nI k ∧ (0 < k → ∀ j, j < 24 → s.2.2.2.1 j = Lg (Tn x v (k - 1)) v j)) (fun (r : Fn × Fn × Fn × Fn) => Rel (Tn x v n) r.1 0 ∧ (0 < n → ∀ j, j < 24 → r.2.2.2 j = Lg (Tn x v (n - 1)) v j)) n (fun k s K hk hP => ?_) (fun s K hP => ?_) 2000 0 _ (by omega) (by omega) ⟨hR, rfl, rfl, rfl, fun h => absurd h (by omega)⟩ <;> obtain ⟨g, a, b, c, d, e, f⟩ := s <;> obtain ⟨h1, h2, h3, h4, h5⟩ := hP <;> dsimp only at h1 h2 h3 h4 h5 <;> subst h2 h3 h4 <;> unfold fX3_shots_l3 <;> dsimp only
  · have hi := Inv_Tn hI hv k (by omega)
    obtain ⟨r, e1, e2, e3⟩ := shoots_eq (mo := mo) (le := a) (co := b) (li := c) h1 hi (by omega) hv
    rw [if_neg (nI_ge hk (by omega)), e1, Option.bind_some, ← nI_succ]
    exact ⟨(r.1, r.2.1, r.2.2.1, r.2.2.2, nI v, nI n, nI (k + 1)), ⟨e2, rfl, rfl, rfl, fun _ => e3⟩, rfl⟩
  · rw [if_pos (nI_le (Nat.le_refl _) (by omega))]
    exact ⟨_, rfl, h1, h5⟩
theorem spread_eq {ex : ExT} {x : ShT} {v : Nat} (hE : Exr x v ex) : fX0_spread ex = some (Spr x v) := congrArg (fun z : SmT => some (z.2.2.1 - z.2.1)) hE.2.2.2
/-! the numbers of a shot, as the class keeps them -/
section
variable {ex : ExT} {x : ShT} {v : Nat}
theorem E_all (hE : Exr x v ex) : ex.2.2.2.1 = (Sx x v).1 := congrArg (fun z : SmT => z.1) hE.2.2.2
theorem E_le (hE : Exr x v ex) : ex.2.2.2.2.1 = (Sx x v).2.1 := congrArg (fun z : SmT => z.2.1) hE.2.2.2
theorem E_mo (hE : Exr x v ex) : ex.2.2.2.2.2.1 = (Sx x v).2.2.1 := congrArg (fun z : SmT => z.2.2.1) hE.2.2.2
theorem E_ae (hE : Exr x v ex) : ex.2.2.2.2.2.2.1 = (Sx x v).2.2.2.1 := congrArg (fun z : SmT => z.2.2.2.1) hE.2.2.2
theorem E_we (hE : Exr x v ex) : ex.2.2.2.2.2.2.2.1 = (Sx x v).2.2.2.2.1 := congrArg (fun z : SmT => z.2.2.2.2.1) hE.2.2.2
theorem E_wc (hE : Exr x v ex) : ex.2.2.2.2.2.2.2.2.1 = (Sx x v).2.2.2.2.2.1 := congrArg (fun z : SmT => z.2.2.2.2.2.1) hE.2.2.2
theorem E_da (hE : Exr x v ex) : ex.2.2.2.2.2.2.2.2.2 = (Sx x v).2.2.2.2.2.2 := congrArg (fun z : SmT => z.2.2.2.2.2.2) hE.2.2.2
end
