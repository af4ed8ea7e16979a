/-! how the class's cells and the reference's hold the same state -/
def cnt (P : Nat → Bool) : Nat → Nat
  | 0 => 0
  | n + 1 => cnt P n + if P n then 1 else 0
def cWet (pipe met : Nat → Int32) (r k : Nat) : Nat → Bool := fun i => decide (pipe (8 * r + i) = nI (k + 1)) && !decide (met (8 * r + i) = 0)
def cDry (pipe met : Nat → Int32) (r k : Nat) : Nat → Bool := fun i => decide (pipe (8 * r + i) = nI (k + 1)) && decide (met (8 * r + i) = 0)
/-- the TAPE -/
def IT (tl : Int32) (tb : Nat → Int32) (ms : Int32) (mt : Nat → Int32) : Prop := ∃ n : Nat, n ≤ 200 ∧ tl = nI n ∧ ms = nI n ∧ ∀ j, j < n → tb j = mt j
/-- the RULES -/
def IU (bn : Nat → Int32) (salt dry rest : Int32) : Prop := bn 0 = salt ∧ bn 1 = dry ∧ bn 2 = rest ∧ ∃ a b c : Nat, a ≤ 999 ∧ b ≤ 9 ∧ c ≤ 9 ∧ salt = nI a ∧ dry = nI b ∧ rest = nI c
/-- the FAULT -/
def IFa (fk fp mf mfp : Int32) : Prop := fk = mf ∧ fp = mfp
def wordsF (j : Nat) : Int32 := [115, 97, 108, 116, 32, 100, 114, 121, 32, 114, 101, 115, 116, 32].getD j 0
def IWd (w : Nat → Int32) : Prop := ∀ j, j < 14 → w j = wordsF j
/-- the ROCKS -/
def IK (rs : Int32) (rp rc rw rb rpi : Nat → Int32) (mr : Int32) (mp mpi mpipe mmet mch : Nat → Int32) (mall : Int32) : Prop := ∃ (n : Nat) (ps : Nat → Nat), n ≤ 4 ∧ rs = nI n ∧ mr = nI n ∧ (∀ j, j < 3 * n → rp j = mp j ∧ ∃ a : Nat, 1 ≤ a ∧ a ≤ 99 ∧ rp j = nI a) ∧ (∀ q k, q < 3 → k < 4 → rc (4 * q + k) = mch (5 * q + k + 1) ∧ ∃ a : Nat, a ≤ 15 ∧ rc (4 * q + k) = nI a) ∧ (∀ r, r < 4 → ps r ≤ 8 ∧ rpi r = nI (ps r) ∧ mpi r = nI (ps r)) ∧ (∀ r, n ≤ r → ps r = 0) ∧ (∀ r i, r < 4 → i < ps r → (∃ k : Nat, 1 ≤ k ∧ k ≤ 4 ∧ mpipe (8 * r + i) = nI k) ∧ (mmet (8 * r + i) = 0 ∨ mmet (8 * r + i) = 1)) ∧ (∀ r k, r < 4 → k < 4 → rw (4 * r + k) = nI (cnt (cWet mpipe mmet r k) (ps r)) ∧ rb (4 * r + k) = nI (cnt (cDry mpipe mmet r k) (ps r))) ∧ mall = nI (ps 0 + ps 1 + ps 2 + ps 3)
/-- the VILLAGES -/
def IV (rs vs : Int32) (vr vp vb vw ve vu : Nat → Int32) (mv : Int32) (mr mp mb mw me mu : Nat → Int32) : Prop := ∃ n nr : Nat, n ≤ 7 ∧ vs = nI n ∧ mv = nI n ∧ nr ≤ 4 ∧ rs = nI nr ∧ ∀ v, 1 ≤ v → v ≤ n → (vr v = mr v ∧ ∃ r : Nat, r < nr ∧ vr v = nI r) ∧ (vp v = mp v ∧ ∃ a : Nat, 1 ≤ a ∧ a ≤ 9999 ∧ vp v = nI a) ∧ vb v = mb v ∧ ((vw v = -1 ∧ mw v = 0 ∧ ve v = -1 ∧ vu v = 0) ∨ ∃ k : Nat, 1 ≤ k ∧ k ≤ 4 ∧ vw v = nI k ∧ mw v = nI k) ∧ (ve v = me v ∧ (ve v = -1 ∨ ∃ a : Nat, 1 ≤ a ∧ a ≤ 30 ∧ ve v = nI a)) ∧ (vu v = mu v ∧ ∃ a : Nat, a ≤ 30 ∧ vu v = nI a)
/-- the WAYS -/
def IY (wd mw : Nat → Int32) : Prop := ∀ j, j < 64 → (wd j = 0 ∧ mw j = -1) ∨ ∃ d : Nat, 1 ≤ d ∧ d ≤ 9 ∧ wd j = nI d ∧ mw j = nI d
/-- the RIG and the DAY -/
def IG (vs rp day mat mday : Int32) : Prop := ∃ a d n : Nat, vs = nI n ∧ n ≤ 7 ∧ a ≤ n ∧ d ≤ 9999 ∧ rp = nI a ∧ mat = nI a ∧ day = nI d ∧ mday = nI d
/-- the latest PLAN -/
def IP (made pipes days stops : Int32) (depths order : Nat → Int32) (isPlan many mpipes mdays : Int32) (pof pdepth : Nat → Int32) : Prop := (made = 0 ∧ isPlan = 0) ∨ (made = 1 ∧ isPlan = 1 ∧ pipes = mpipes ∧ days = mdays ∧ ∃ k : Nat, k ≤ 7 ∧ stops = nI k ∧ many = nI k ∧ ∀ j, j < k → ∃ v : Nat, 1 ≤ v ∧ v ≤ 7 ∧ order j = nI v ∧ pof j = nI v ∧ pdepth j = depths v)
