theorem Sm_lm {g : Fn} {w : Int32} {B : Int} (hg : ∀ k, k < 24 → 0 ≤ (g k).toInt ∧ (g k).toInt ≤ B) : ∀ k, k ≤ 24 → 0 ≤ (Sm g w k).2.1.toInt ∧ (Sm g w k).2.1.toInt ≤ (Sm g w k).2.2.1.toInt ∧ (Sm g w k).2.2.1.toInt ≤ B := by
  intro k
  induction k with
  | zero => intro _; have h := hg 0 (by omega); exact ⟨h.1, Int.le_refl _, h.2⟩
  | succ k ih =>
    intro hk
    obtain ⟨a, b, c⟩ := ih (by omega)
    have h := hg k (by omega)
    rcases hs : Sm g w k with ⟨al, le, mo, ae, we, wc, da⟩
    rw [hs] at a b c
    dsimp only at a b c
    rw [Sm_succ g w k hs]
    dsimp only
    rw [imin_t, imax_t]
    omega
theorem even_v {bo : BoT} {mo : MoT} {ex : ExT} {x : ShT} {fn le co li : Fn} {M v : Nat} (hR : Rel x fn 0) (hI : Inv x M) (hM : M ≤ 200000) (hv : v < 6) : ∃ a r r', fX2_evenness bo x ex (nI v) = some (.inr (a, r)) ∧ fX3_share mo fn le co li (nI v) = some (a, r') ∧ FP.dcmp a a = some .eq ∧ ∃ z, fX2_bitsOfShare a = some z ∧ fJxe99ae_doubleToLongBits_ccdee a = some z := by
  obtain ⟨ex', e1, e2⟩ := expose_eq (ex := ex) hI hv
  obtain ⟨r, f1, f2, f3, f4⟩ := lays_eq (mo := mo) (le := le) (co := co) (li := li) hR hI hM hv
  obtain ⟨b1, b2, b3⟩ := Sm_lm (g := Lg x v) (w := Wv v) (fun k hk => Lg_b hI hM hv hk) 24 (by omega)
  unfold fX2_evenness fX3_share
  rw [needV hv, tb_inr, e1, Option.bind_some, f1, Option.bind_some, tells_eq hI hM hv f4, Option.bind_some, tells_eq hI hM hv f4, Option.bind_some, tl8, tl9, E_le e2, E_mo e2]
  generalize (Sx x v).2.1 = le' at b1 b2
  generalize (Sx x v).2.2.1 = mo' at b2 b3
  obtain ⟨a, ha0, rfl⟩ : ∃ a, a ≤ 10000000 ∧ le' = nI a := ⟨le'.toInt.toNat, by omega, i_eq (by rw [nI_toInt (by omega)]; omega)⟩
  obtain ⟨b, hb, rfl⟩ : ∃ b, b ≤ 10000000 ∧ mo' = nI b := ⟨mo'.toInt.toNat, by omega, i_eq (by rw [nI_toInt (by omega)]; omega)⟩
  by_cases h : b = 0
  · subst h
    rw [if_neg (show ¬ 0 < nI 0 by decide), if_pos (show nI 0 = 0 from rfl)]
    exact ⟨_, _, _, rfl, rfl, share_1⟩
  · have ha : a ≤ b := by
      rw [nI_toInt (n := a) (by omega), nI_toInt (n := b) (by omega)] at b2
      omega
    obtain ⟨s1, s2, s3⟩ := share_v ha (by omega) (by omega)
    rw [if_pos (show (0 : Int32) < nI b from nI_lt (a := 0) (by omega) (by omega)), if_neg (nI_ne0 (by omega) (by omega)), gd_t s1, gd_t s1]
    exact ⟨_, _, _, rfl, rfl, s2, s3⟩
