theorem at0 {n : Nat} (f : Nat → Int32) (h : 0 < n) (hn : n < 2 ^ 31) : fX2_at n f 0 = some (f 0) := at_nI (j := 0) f h hn
theorem at1 {n : Nat} (f : Nat → Int32) (h : 1 < n) (hn : n < 2 ^ 31) : fX2_at n f 1 = some (f 1) := at_nI (j := 1) f h hn
theorem at2 {n : Nat} (f : Nat → Int32) (h : 2 < n) (hn : n < 2 ^ 31) : fX2_at n f 2 = some (f 2) := at_nI (j := 2) f h hn
theorem at3 {n : Nat} (f : Nat → Int32) (h : 3 < n) (hn : n < 2 ^ 31) : fX2_at n f 3 = some (f 3) := at_nI (j := 3) f h hn
theorem at23 {n : Nat} (f : Nat → Int32) (h : 23 < n) (hn : n < 2 ^ 31) : fX2_at n f 23 = some (f 23) := at_nI (j := 23) f h hn
theorem n24 {k : Nat} (h : k < 24) : ¬ (24 : Int32) ≤ nI k := nI_ge (b := 24) h (by decide)
theorem l24 : (24 : Int32) ≤ nI 24 := by decide
theorem n2 {k : Nat} (h : k < 2) : ¬ (2 : Int32) ≤ nI k := nI_ge (b := 2) h (by decide)
theorem l2 : (2 : Int32) ≤ nI 2 := by decide
/-! the light of a shot, in numbers of the shutter alone -/
def Tk (x : ShT) (c : Nat) : Int32 := 1000 / x.1 c + x.2.2.2.2.2.1 0 * (x.2.1 c / 10)
def Lf (x : ShT) : Nat → Int32
  | 0 => 0
  | k + 1 => Lf x k + (Tk x 0 + x.2.2.1 k)
def Sv (x : ShT) (v : Nat) : Int32 := imax 0 ((20 <<< (nI v &&& 31)) + x.2.2.2.2.1 v)
def Cv (x : ShT) (v : Nat) : Nat → Int32
  | 0 => Sv x v
  | k + 1 => imax (Lf x (k + 1)) ((Cv x v k + Tk x 1) + x.2.2.2.1 k)
def Bc (x : ShT) : Int32 := if x.1 0 - x.2.2.2.2.2.1 1 ≤ 0 then 0 else imin ((x.1 0 - x.2.2.2.2.2.1 1) / 5) 6
def Lg (x : ShT) (v k : Nat) : Int32 := (Cv x v (k + 1) - Lf x (k + 1)) - imax 0 (if 24 - Bc x ≤ nI k then imin (Cv x v (k + 1)) (Lf x 24 + x.2.2.2.2.2.1 2) - Lf x 24 else 0)
theorem ticks_eq {x : ShT} {M c : Nat} (hI : Inv x M) (hc : c < 2) : fX1_ticksWithoutDrag x (nI c) = some (Tk x c) := by
  have h1 := hI.1 c hc
  have hp : ¬ x.1 c ≤ 0 := by rw [le_i, Int32.toInt_zero]; omega
  have hz : ¬ x.1 c = 0 := fun q => by rw [q, Int32.toInt_zero] at h1; omega
  unfold fX1_ticksWithoutDrag
  rw [at_nI _ hc (by decide), Option.bind_some, if_neg hp, gd_t (nz_t hz)]
  unfold fX1_ticksWithoutDrag_j22
  dsimp only
  rw [at0 _ (by decide) (by decide), Option.bind_some, at_nI _ hc (by decide), Option.bind_some]
  rfl
theorem ticks0 {x : ShT} {M : Nat} (hI : Inv x M) : fX1_ticksWithoutDrag x 0 = some (Tk x 0) := ticks_eq (c := 0) hI (by decide)
theorem ticks1 {x : ShT} {M : Nat} (hI : Inv x M) : fX1_ticksWithoutDrag x 1 = some (Tk x 1) := ticks_eq (c := 1) hI (by decide)
theorem start_eq {x : ShT} {v : Nat} (hv : v < 6) : fX1_startOfSecond x (nI v) = some (Sv x v) := by
  unfold fX1_startOfSecond fX2_wantedLight
  rw [Option.bind_some, at_nI _ hv (by decide), Option.bind_some]
  rfl
theorem bounce_eq (x : ShT) : fX1_bounceColumns x = some (Bc x) := by
  unfold fX1_bounceColumns
  rw [at0 _ (by decide) (by decide), Option.bind_some, at1 _ (by decide) (by decide), Option.bind_some]
  unfold Bc
  by_cases h : x.1 0 - x.2.2.2.2.2.1 1 ≤ 0
  · rw [if_pos h, if_pos h]
  · rw [if_neg h, if_neg h]
abbrev exL (ex : ExT) (f g h : Nat → Int32) : ExT := (f, g, h, ex.2.2.2.1, ex.2.2.2.2.1, ex.2.2.2.2.2.1, ex.2.2.2.2.2.2.1, ex.2.2.2.2.2.2.2.1, ex.2.2.2.2.2.2.2.2.1, ex.2.2.2.2.2.2.2.2.2)
theorem upd_to {f : Nat → Int32} {g : Nat → Int32} {k : Nat} {a : Int32} (h : a = f k) : upd (fun j => if j < k then f j else g j) k a = fun j => if j < k + 1 then f j else g j := by rw [h]; exact upd_if
theorem run_eq {ex : ExT} {x : ShT} {M v : Nat} (hI : Inv x M) (hv : v < 6) : fX0_runCurtains ex x (nI v) = some (exL ex (mrg 24 (fun j => Lf x (j + 1)) ex.1) (mrg 24 (fun j => Cv x v (j + 1)) ex.2.1) ex.2.2.1) := by
  unfold fX0_runCurtains
  rw [ticks0 hI, Option.bind_some, ticks1 hI, Option.bind_some, start_eq hv, Option.bind_some]
  refine lp_run (fun k => (exL ex (mrg k (fun j => Lf x (j + 1)) ex.1) (mrg k (fun j => Cv x v (j + 1)) ex.2.1) ex.2.2.1, Tk x 0, Tk x 1, Lf x k, Cv x v k, nI k)) 24 (fun k K hk => ?_) (fun K => ?_) 2000 0 (by omega) (by omega) <;> unfold fX0_runCurtains_l26
  · dsimp only
    rw [if_neg (n24 hk), if_neg (n24 hk), at_nI _ hk (by decide), Option.bind_some, at_nI _ hk (by decide), Option.bind_some, gd_t (pin_nI hk (by decide)), nI_clamp (by omega)]
    have e1 : upd (mrg k (fun j => Lf x (j + 1)) ex.1) k (Lf x k + (Tk x 0 + x.2.2.1 k)) = mrg (k + 1) (fun j => Lf x (j + 1)) ex.1 := upd_to rfl
    have e2 : upd (mrg k (fun j => Cv x v (j + 1)) ex.2.1) k (imax (Lf x k + (Tk x 0 + x.2.2.1 k)) ((Cv x v k + Tk x 1) + x.2.2.2.1 k)) = mrg (k + 1) (fun j => Cv x v (j + 1)) ex.2.1 := upd_to rfl
    rw [e1, e2, ← nI_succ]
    rfl
  · dsimp only
    rw [if_pos l24]
theorem open_eq {ex : ExT} {x : ShT} {v : Nat} (h1 : ∀ j, j < 24 → ex.1 j = Lf x (j + 1)) (h2 : ∀ j, j < 24 → ex.2.1 j = Cv x v (j + 1)) : fX0_openColumns ex x = some (exL ex ex.1 ex.2.1 (mrg 24 (Lg x v) ex.2.2.1)) := by
  unfold fX0_openColumns
  rw [at23 _ (by decide) (by decide), Option.bind_some, at2 _ (by decide) (by decide), Option.bind_some, bounce_eq, Option.bind_some, h1 23 (by decide)]
  refine lp_run (fun k => (exL ex ex.1 ex.2.1 (mrg k (Lg x v) ex.2.2.1), Lf x 24, Lf x 24 + x.2.2.2.2.2.1 2, 24 - Bc x, nI k)) 24 (fun k K hk => ?_) (fun K => ?_) 2000 0 (by omega) (by omega) <;> unfold fX0_openColumns_l33
  · dsimp only
    rw [if_neg (n24 hk), at_nI _ hk (by decide), Option.bind_some, at_nI _ hk (by decide), Option.bind_some, h1 k hk, h2 k hk]
    unfold fX0_openColumns_j87
    dsimp only
    rw [gd_t (pin_nI hk (by decide)), gd_t (pin_nI hk (by decide)), nI_clamp (by omega)]
    by_cases hc : 24 - Bc x ≤ nI k
    · rw [if_pos hc]
      have e1 : upd (mrg k (Lg x v) ex.2.2.1) k ((Cv x v (k + 1) - Lf x (k + 1)) - imax 0 (imin (Cv x v (k + 1)) (Lf x 24 + x.2.2.2.2.2.1 2) - Lf x 24)) = mrg (k + 1) (Lg x v) ex.2.2.1 := upd_to (by unfold Lg; rw [if_pos hc])
      rw [e1, ← nI_succ]
    · rw [if_neg hc]
      have e1 : upd (mrg k (Lg x v) ex.2.2.1) k ((Cv x v (k + 1) - Lf x (k + 1)) - imax 0 0) = mrg (k + 1) (Lg x v) ex.2.2.1 := upd_to (by unfold Lg; rw [if_neg hc])
      rw [e1, ← nI_succ]
  · dsimp only
    rw [if_pos l24]
/-- the sums over 24 lights, as both programs make them -/
abbrev SmT : Type := Int32 × Int32 × Int32 × Int32 × Int32 × Int32 × Int32
abbrev er (g : Nat → Int32) (w : Int32) (k : Nat) : Int32 := iabs (g k - w)
def Sm (g : Nat → Int32) (w : Int32) : Nat → SmT
  | 0 => (0, g 0, g 0, 0, 0, 0, 0)
  | k + 1 => match Sm g w k with
    | (al, le, mo, ae, we, wc, da) => (al + g k, imin le (g k), imax mo (g k), ae + er g w k, if er g w k ≤ we then we else er g w k, if er g w k ≤ we then wc else nI k, if g k = 0 then da + 1 else da)
abbrev exS (ex : ExT) (s : SmT) : ExT := (ex.1, ex.2.1, ex.2.2.1, s)
theorem sum_eq (ex : ExT) (w : Int32) : fX0_sumUp ex w = some (exS ex (Sm ex.2.2.1 w 24)) := by
  unfold fX0_sumUp
  rw [at0 _ (by decide) (by decide), Option.bind_some]
  refine lp_run (fun k => (exS ex (Sm ex.2.2.1 w k), w, nI k)) 24 (fun k K hk => ?_) (fun K => ?_) 2000 0 (by omega) (by omega) <;> unfold fX0_sumUp_l47
  · dsimp only
    rw [if_neg (n24 hk), gd_t (pin_nI hk (by decide)), nI_clamp (by omega)]
    unfold fX0_sumUp_j145
    dsimp only
    rw [gd_t (pin_nI hk (by decide)), gd_t (pin_nI hk (by decide)), nI_clamp (by omega), ← nI_succ]
    show _ = K (exS ex (Sm ex.2.2.1 w (k + 1)), w, nI (k + 1))
    rw [show Sm ex.2.2.1 w (k + 1) = (match Sm ex.2.2.1 w k with | (al, le, mo, ae, we, wc, da) => (al + ex.2.2.1 k, imin le (ex.2.2.1 k), imax mo (ex.2.2.1 k), ae + er ex.2.2.1 w k, if er ex.2.2.1 w k ≤ we then we else er ex.2.2.1 w k, if er ex.2.2.1 w k ≤ we then wc else nI k, if ex.2.2.1 k = 0 then da + 1 else da) : SmT) from rfl]
    obtain ⟨al, le, mo, ae, we, wc, da⟩ := Sm ex.2.2.1 w k
    dsimp only [er]
    by_cases c1 : iabs (ex.2.2.1 k - w) ≤ we <;> by_cases c2 : ex.2.2.1 k = 0
    · simp only [if_pos c1, if_pos c2]
    · simp only [if_pos c1, if_neg c2]
    · simp only [if_neg c1, if_pos c2]
    · simp only [if_neg c1, if_neg c2]
  · dsimp only
    rw [if_pos l24]
