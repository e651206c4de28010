abbrev Fn : Type := Nat → Int32
theorem lp_rel {σ R : Type} {B : (σ → Option R) → σ → Option R} (P : Nat → σ → Prop) (Q : R → Prop) (N : Nat) (step : ∀ (k : Nat) (s : σ) (K : σ → Option R), k < N → P k s → ∃ s', P (k + 1) s' ∧ B K s = K s') (last : ∀ (s : σ) (K : σ → Option R), P N s → ∃ r, B K s = some r ∧ Q r) : ∀ (fu k : Nat) (s : σ), k ≤ N → N < k + fu → P k s → ∃ r, lp B fu s = some r ∧ Q r := by
  intro fu
  induction fu with
  | zero => intro k s h1 h2; omega
  | succ fu ih =>
    intro k s h1 h2 hP
    show ∃ r, B (lp B fu) s = some r ∧ Q r
    by_cases e : k = N
    · subst e; exact last s _ hP
    · obtain ⟨s', hP', e'⟩ := step k s (lp B fu) (by omega) hP
      rw [e']
      exact ih (k + 1) s' (by omega) (by omega) hP'
/-! a shot -/
abbrev wears (x : ShT) : Prop := (x.2.2.2.2.2.2.2.1 + 1) - (x.2.2.2.2.2.2.2.1 + 1) / x.2.2.2.2.2.1 3 * x.2.2.2.2.2.1 3 = 0
abbrev Spr (x : ShT) (v : Nat) : Int32 := (Sx x v).2.2.1 - (Sx x v).2.1
/-- k curtains are done -/
def Tyk (x : ShT) (v : Nat) (b : Prop) [Decidable b] (k : Nat) : ShT := ((if b then mrg k (fun j => imax 1 (x.1 j - 1)) x.1 else x.1), mrg k (fun j => x.2.1 j + 1) x.2.1, x.2.2.1, x.2.2.2.1, x.2.2.2.2.1, x.2.2.2.2.2.1, upd x.2.2.2.2.2.2.1 v (x.2.2.2.2.2.2.1 v + 1), x.2.2.2.2.2.2.2.1 + 1, (Sx x v).1, imax x.2.2.2.2.2.2.2.2.2 (Spr x v))
def Ty (x : ShT) (v : Nat) : ShT := Tyk x v (wears x) 2
theorem tally_l {ex : ExT} {x : ShT} {v : Nat} {f : Int32} {b : Prop} [Decidable b] (hf : ¬ f = 0 ↔ b) : lp (fX1_tally_l83 ex) 2000 (Tyk x v b 0, f, 0) = some (Tyk x v b 2) := by
  refine lp_run (fun k => (Tyk x v b k, f, nI k)) 2 (fun k K hk => ?_) (fun K => ?_) 2000 0 (by omega) (by omega) <;> unfold fX1_tally_l83
  · dsimp only
    have s0 : (Tyk x v b k).2.1 k = x.2.1 k := if_neg (by omega)
    have e1 : upd (Tyk x v b k).2.1 k (x.2.1 k + 1) = (Tyk x v b (k + 1)).2.1 := upd_to (f := fun j => x.2.1 j + 1) rfl
    rw [if_neg (n2 hk), at_nI _ hk (by decide), Option.bind_some, s0, put_nI _ _ hk (by decide), Option.bind_some, e1, ← nI_succ]
    by_cases q : f = 0
    · have nb : ¬ b := fun r => (hf.mpr r) q
      rw [if_pos q]
      have e2 : (Tyk x v b k).1 = (Tyk x v b (k + 1)).1 := (if_neg nb).trans (if_neg nb).symm
      rw [e2]
      rfl
    · have pb : b := hf.mp q
      have e2 : (Tyk x v b k).1 = mrg k (fun j => imax 1 (x.1 j - 1)) x.1 := if_pos pb
      have e3 : (Tyk x v b (k + 1)).1 = mrg (k + 1) (fun j => imax 1 (x.1 j - 1)) x.1 := if_pos pb
      have s1 : (Tyk x v b k).1 k = x.1 k := by rw [e2]; exact if_neg (by omega)
      have e4 : upd (Tyk x v b k).1 k (imax 1 (x.1 k - 1)) = (Tyk x v b (k + 1)).1 := by rw [e2, e3]; exact upd_to (f := fun j => imax 1 (x.1 j - 1)) rfl
      rw [if_neg q, at_nI _ hk (by decide), Option.bind_some, s1, put_nI _ _ hk (by decide), Option.bind_some, e4]
      rfl
  · dsimp only
    rw [if_pos l2]
theorem Tyk_0 (x : ShT) (v : Nat) (b : Prop) [Decidable b] : Tyk x v b 0 = (x.1, x.2.1, x.2.2.1, x.2.2.2.1, x.2.2.2.2.1, x.2.2.2.2.2.1, upd x.2.2.2.2.2.2.1 v (x.2.2.2.2.2.2.1 v + 1), x.2.2.2.2.2.2.2.1 + 1, (Sx x v).1, imax x.2.2.2.2.2.2.2.2.2 (Spr x v)) := by
  have e1 : mrg 0 (fun j => imax 1 (x.1 j - 1)) x.1 = x.1 := by funext j; exact if_neg (by omega)
  have e2 : mrg 0 (fun j => x.2.1 j + 1) x.2.1 = x.2.1 := by funext j; exact if_neg (by omega)
  unfold Tyk
  rw [e1, e2, ite_self]
theorem tally_eq {ex : ExT} {x : ShT} {M v : Nat} (hI : Inv x M) (hv : v < 6) (hE : Exr x v ex) : fX1_tally x ex (nI v) = some (Ty x v) := by
  have s3 := hI.2.2.2.2.2.2.2.2
  unfold fX1_tally fX0_spread
  rw [at_nI _ hv (by decide), Option.bind_some, put_nI _ _ hv (by decide), Option.bind_some, Option.bind_some, at3 _ (by decide) (by decide), Option.bind_some, if_neg (by rw [le_i, z_t]; omega), gd_t (nz_t (fun q => by rw [q, z_t] at s3; omega))]
  have e1 : ex.2.2.2.1 = (Sx x v).1 := congrArg (fun z : SmT => z.1) hE.2.2.2
  have e2 : ex.2.2.2.2.2.1 - ex.2.2.2.2.1 = Spr x v := congrArg (fun z : SmT => z.2.2.1 - z.2.1) hE.2.2.2
  rw [e1, e2, ← Tyk_0 x v (wears x)]
  by_cases w : wears x
  · rw [if_pos w, tally_l (b := wears x) ⟨fun _ => w, fun _ => by decide⟩]; rfl
  · rw [if_neg w, tally_l (b := wears x) ⟨fun h => absurd rfl h, fun h => absurd h w⟩]; rfl
theorem Inv_Ty {x : ShT} {M v : Nat} (hI : Inv x M) (hM : M ≤ 200000) (hv : v < 6) : Inv (Ty x v) (M + 1) := by
  obtain ⟨h1, h2, h3, h4, h5, h6, h7, h8, h9⟩ := hI
  refine ⟨fun j hj => ?_, fun j hj => ?_, h3, h4, h5, h6, h7, h8, h9⟩
  · have g := h1 j hj
    by_cases w : wears x
    · have e : (Ty x v).1 j = imax 1 (x.1 j - 1) := (congrFun (if_pos w) j).trans (if_pos hj)
      rw [e, imax_t, ti_sub (by rw [o_t]; omega) (by rw [o_t]; omega), o_t]; omega
    · have e : (Ty x v).1 j = x.1 j := congrFun (if_neg w) j
      rw [e]; exact g
  · have g := h2 j hj
    have e : (Ty x v).2.1 j = x.2.1 j + 1 := if_pos hj
    rw [e, ti_add (by rw [o_t]; omega) (by rw [o_t]; omega), o_t]; omega
theorem Inv_up {x : ShT} {M N : Nat} (h : Inv x M) (hN : M ≤ N) : Inv x N := ⟨h.1, fun j hj => ⟨(h.2.1 j hj).1, by have := (h.2.1 j hj).2; omega⟩, h.2.2⟩
theorem tl3 (s : SmT) : tl s 3 = s.1 := rfl
theorem tl4 (s : SmT) : tl s 4 = s.2.2.1 - s.2.1 := rfl
