/-! reading: items -/
def IR (B : Nat → Nat) (n : Nat) (vr vm : US) (e : Nat) (b : Bool) (vr' vd' vm' : US) (nx' : Nat → Int32) : Prop := vr'.1 1 = vr.1 1 ∧ FrV vm vm' ∧ (b = false → vr'.1 2 = vm'.1 18) ∧ (b = true → Dr vd' nx' ∧ ∃ p', e ≤ p' ∧ Pp B n vr' vm' p')
theorem ir_f {B : Nat → Nat} {n e : Nat} {vr vm vr' vd' vm' : US} {nx' : Nat → Int32} (h1 : vr'.1 1 = vr.1 1) (h2 : FrV vm vm') (h3 : vr'.1 2 = vm'.1 18) : IR B n vr vm e false vr' vd' vm' nx' := ⟨h1, h2, fun _ => h3, fun q => absurd q (by decide)⟩
theorem ir_t {B : Nat → Nat} {n e p' : Nat} {vr vm vr' vd' vm' : US} {nx' : Nat → Int32} (h1 : vr'.1 1 = vr.1 1) (h2 : FrV vm vm') (h3 : Dr vd' nx') (h4 : e ≤ p') (h5 : Pp B n vr' vm' p') : IR B n vr vm e true vr' vd' vm' nx' := ⟨h1, h2, fun q => absurd q (by decide), fun _ => ⟨h3, p', h4, h5⟩⟩
theorem go_x {N : Nat} (hN : 200000 ≤ N) {B : Nat → Nat} {n p s e k : Nat} {vr vm : US} (tok : Tok B n p s e k) (hX : XT vr B n s e k) (hM : MT vm B s e k) (hB : MB vm B n) : ∃ vm1, f_X12_goOn N vm = some vm1 ∧ Pp B n vr vm1 e ∧ FrV vm vm1 := by
  have hbd := tok.bd
  obtain ⟨s', e', k', tok'⟩ := tok_ex B (n := n) (p := e) hbd.2.2.1
  obtain ⟨vm1, g1, g2, g3⟩ := goon hN hB hM tok tok'
  exact ⟨vm1, g1, ⟨hbd.2.2.1, hX.2.1, hX.2.2.2.2, g3.fv.mb hB, s', e', k', tok', g2⟩, g3.fv⟩
theorem zc : (0 : Int32).toNatClampNeg = 0 ∧ (1 : Int32).toNatClampNeg = 1 ∧ (2 : Int32).toNatClampNeg = 2 ∧ (3 : Int32).toNatClampNeg = 3 ∧ (28 : Int32).toNatClampNeg = 28 ∧ (39 : Int32).toNatClampNeg = 39 ∧ (26 : Int32).toNatClampNeg = 26 := by decide
theorem it_thing {N : Nat} (hN : 200000 ≤ N) {tx : Nat → Int32} {B : Nat → Nat} {n p s e k : Nat} {vr vm vd : US} {nx : Nat → Int32} (hT : TB tx B n) (tok : Tok B n p s e k) (hX : XT vr B n s e k) (hM : MT vm B s e k) (hB : MB vm B n) (hD : Dr vd nx) : ∃ b vr' vd' vm' nx', f_X5_takesThing N vr vd tx = some (b, vr', vd') ∧ f_X12_readsThing N vm nx = some (b, vm', nx') ∧ IR B n vr vm e b vr' vd' vm' nx' := by
  obtain ⟨a, hv, hx, hm⟩ := id hD
  have h5 := hv.1
  have eX := hx.1
  have eM : nx 0 = nI (a.1 0) := (ext_lt (by decide)).symm.trans hm.1
  have F58 : ∀ vr', b_X5_takesThing_58 N vr' vd tx = some (false, vr', vd) := fun vr' => by
    unfold b_X5_takesThing_58 b_X5_takesThing_59
    rw [iff0]
  obtain ⟨vm0, g1, P0, fr0⟩ := go_x hN tok hX hM hB
  unfold f_X5_takesThing f_X12_readsThing
  rw [if_neg (show ¬ ((0 : Int32) < 0 ∨ 52 ≤ (0 : Int32).toNatClampNeg) by decide), zc.1, eX, eM]
  by_cases c : a.1 0 = 5
  · rw [if_pos (show (5 : Int32) ≤ nI (a.1 0) from nI_le (a := 5) (by omega) (by omega)), if_pos (show nI (a.1 0) = 5 by rw [c]; rfl), F58]
    exact ⟨_, _, _, _, _, rfl, rfl, ir_f rfl (FrV.rf _) (hX.1.trans hM.1.symm)⟩
  · rw [if_neg (show ¬ (5 : Int32) ≤ nI (a.1 0) from nI_nle2 (a := 5) (by omega) (by decide)), if_neg (show ¬ nI (a.1 0) = 5 from fun q => c ((nI_eq (b := 5) (by omega) (by decide)).mp q)), g1, bs]
    obtain ⟨b1, vr1, vm1, q1, r1, s1, f1, t1, u1⟩ := pn_x hN hT P0 (i := 0) (by decide) 0 4
    have q1 : f_X5_takesNumber N vr tx 0 0 4 = some (b1, vr1) := q1
    have r1 : f_X12_takes N vm0 0 0 4 = some (b1, vm1) := r1
    simp only [q1, r1, bs]
    cases b1
    · simp only [iff0, F58]
      exact ⟨_, _, _, _, _, rfl, rfl, ir_f s1 (fr0.tr f1) (t1 rfl)⟩
    simp only [ift]
    obtain ⟨⟨p1, l1, P1⟩, w1, v1, -, -⟩ := u1 rfl
    obtain ⟨b2, vr2, vm2, q2, r2, s2, f2, t2, u2⟩ := pn_x hN hT P1 (i := 1) (by decide) 0 9
    have q2 : f_X5_takesNumber N vr1 tx 1 0 9 = some (b2, vr2) := q2
    have r2 : f_X12_takes N vm1 1 0 9 = some (b2, vm2) := r2
    simp only [q2, r2, bs]
    cases b2
    · simp only [iff0, F58]
      exact ⟨_, _, _, _, _, rfl, rfl, ir_f (s2.trans s1) (fr0.tr (f1.tr f2)) (t2 rfl)⟩
    simp only [ift]
    obtain ⟨⟨p2, l2, P2⟩, w2, v2, x2, y2⟩ := u2 rfl
    obtain ⟨b3, vr3, vm3, q3, r3, s3, f3, t3, u3⟩ := pn_x hN hT P2 (i := 2) (by decide) 1 9
    have q3 : f_X5_takesNumber N vr2 tx 2 1 9 = some (b3, vr3) := q3
    have r3 : f_X12_takes N vm2 2 1 9 = some (b3, vm3) := r3
    simp only [q3, r3, bs]
    cases b3
    · simp only [iff0, F58]
      exact ⟨_, _, _, _, _, rfl, rfl, ir_f (s3.trans (s2.trans s1)) (fr0.tr (f1.tr (f2.tr f3))) (t3 rfl)⟩
    simp only [ift]
    obtain ⟨⟨p3, l3, P3⟩, w3, v3, x3, y3⟩ := u3 rfl
    obtain ⟨b4, vr4, vm4, q4, r4, s4, f4, t4, u4⟩ := pn_x hN hT P3 (i := 3) (by decide) 0 9
    have q4 : f_X5_takesNumber N vr3 tx 3 0 9 = some (b4, vr4) := q4
    have r4 : f_X12_takes N vm3 3 0 9 = some (b4, vm4) := r4
    simp only [q4, r4, bs]
    cases b4
    · simp only [iff0, F58]
      exact ⟨_, _, _, _, _, rfl, rfl, ir_f (s4.trans (s3.trans (s2.trans s1))) (fr0.tr (f1.tr (f2.tr (f3.tr f4)))) (t4 rfl)⟩
    simp only [ift]
    obtain ⟨⟨p4, l4, P4⟩, w4, v4, x4, y4⟩ := u4 rfl
    have k0 : vr4.2.2 8 0 = vr1.2.2 8 0 := (x4 0 (by decide)).trans ((x3 0 (by decide)).trans (x2 0 (by decide)))
    have k1 : vr4.2.2 8 1 = vr2.2.2 8 1 := (x4 1 (by decide)).trans (x3 1 (by decide))
    have k2 : vr4.2.2 8 2 = vr3.2.2 8 2 := x4 2 (by decide)
    have m0 : vm4.2.2 23 0 = vm1.2.2 23 0 := (y4 0 (by decide)).trans ((y3 0 (by decide)).trans (y2 0 (by decide)))
    have m1 : vm4.2.2 23 1 = vm2.2.2 23 1 := (y4 1 (by decide)).trans (y3 1 (by decide))
    have m2 : vm4.2.2 23 2 = vm3.2.2 23 2 := y4 2 (by decide)
    obtain ⟨vd', nx', d1, d2, d3⟩ := dr_thing hN hD (T := a.1 0) (by omega) eX eM w1 w2 w3 w4
    unfold b_X5_takesThing_59
    rw [ift, if_neg (by decide), if_neg (by decide), if_neg (by decide), if_neg (by decide), zc.1, zc.2.1, zc.2.2.1, zc.2.2.2.1, k0, k1, k2, d1, bs, if_neg (by decide), if_neg (by decide), if_neg (by decide), if_neg (by decide), m0, m1, m2, ← v1, ← v2, ← v3, ← v4, d2, bs]
    exact ⟨_, _, _, _, _, rfl, rfl, ir_t (s4.trans (s3.trans (s2.trans s1))) (fr0.tr (f1.tr (f2.tr (f3.tr f4)))) d3 (by omega) P4⟩
theorem it_errand {N : Nat} (hN : 200000 ≤ N) {tx : Nat → Int32} {B : Nat → Nat} {n p s e k : Nat} {vr vm vd : US} {nx : Nat → Int32} (hT : TB tx B n) (tok : Tok B n p s e k) (hX : XT vr B n s e k) (hM : MT vm B s e k) (hB : MB vm B n) (hD : Dr vd nx) : ∃ b vr' vd' vm' nx', f_X5_takesErrand N vr vd tx = some (b, vr', vd') ∧ f_X12_readsErrand N vm nx = some (b, vm', nx') ∧ IR B n vr vm e b vr' vd' vm' nx' := by
  obtain ⟨a, hv, hx, hm⟩ := id hD
  have h8 := hv.2.2.2.2.1
  have eX := hx.2.2.2.2.1
  have eM : nx 28 = nI (a.1 8) := (ext_lt (by decide)).symm.trans hm.2.2.2.1
  have e0 : vd.1 0 = nx 0 := hx.1.trans (hm.1.symm.trans (ext_lt (by decide)))
  have F44 : ∀ vr', b_X5_takesErrand_44 N vr' vd tx = some (false, vr', vd) := fun vr' => by
    unfold b_X5_takesErrand_44 b_X5_takesErrand_45
    rw [iff0]
  obtain ⟨vm0, g1, P0, fr0⟩ := go_x hN tok hX hM hB
  unfold f_X5_takesErrand f_X12_readsErrand f_X12_takesPull
  rw [if_neg (show ¬ ((28 : Int32) < 0 ∨ 52 ≤ (28 : Int32).toNatClampNeg) by decide), zc.2.2.2.2.1, eX, eM]
  by_cases c : a.1 8 = 5
  · rw [if_pos (show (5 : Int32) ≤ nI (a.1 8) from nI_le (a := 5) (by omega) (by omega)), if_pos (show nI (a.1 8) = 5 by rw [c]; rfl), F44]
    exact ⟨_, _, _, _, _, rfl, rfl, ir_f rfl (FrV.rf _) (hX.1.trans hM.1.symm)⟩
  · rw [if_neg (show ¬ (5 : Int32) ≤ nI (a.1 8) from nI_nle2 (a := 5) (by omega) (by decide)), if_neg (show ¬ nI (a.1 8) = 5 from fun q => c ((nI_eq (b := 5) (by omega) (by decide)).mp q)), g1, bs, if_neg (show ¬ ((0 : Int32) < 0 ∨ 52 ≤ (0 : Int32).toNatClampNeg) by decide), zc.1, e0]
    obtain ⟨b1, vr1, vm1, q1, r1, s1, f1, t1, u1⟩ := pn_x hN hT P0 (i := 0) (by decide) 0 (nx 0 - 1)
    have q1 : f_X5_takesNumber N vr tx 0 0 (nx 0 - 1) = some (b1, vr1) := q1
    have r1 : f_X12_takes N vm0 0 0 (nx 0 - 1) = some (b1, vm1) := r1
    simp only [q1, r1, bs]
    cases b1
    · simp only [iff0, F44, bs]
      exact ⟨_, _, _, _, _, rfl, rfl, ir_f s1 (fr0.tr f1) (t1 rfl)⟩
    simp only [ift]
    obtain ⟨⟨p1, l1, P1⟩, w1, v1, -, -⟩ := u1 rfl
    obtain ⟨b2, vr2, vm2, q2, r2, s2, f2, t2, u2⟩ := pn_x hN hT P1 (i := 1) (by decide) 0 20
    have q2 : f_X5_takesNumber N vr1 tx 1 0 20 = some (b2, vr2) := q2
    have r2 : f_X12_takes N vm1 1 0 20 = some (b2, vm2) := r2
    simp only [q2, r2, bs]
    cases b2
    · simp only [iff0, F44, bs]
      exact ⟨_, _, _, _, _, rfl, rfl, ir_f (s2.trans s1) (fr0.tr (f1.tr f2)) (t2 rfl)⟩
    simp only [ift, bs]
    obtain ⟨⟨p2, l2, P2⟩, w2, v2, x2, y2⟩ := u2 rfl
    have k0 : vr2.2.2 8 0 = vr1.2.2 8 0 := x2 0 (by decide)
    have m0 : vm2.2.2 23 0 = vm1.2.2 23 0 := y2 0 (by decide)
    have ht : f_X9_hasThing vd (vr1.2.2 8 0) = some true := by
      unfold f_X9_hasThing
      rw [e0, w1, bs]
    obtain ⟨vd', d1, d2⟩ := dr_errand hN hD (E := a.1 8) (by omega) eX eM e0 ht w2
    unfold b_X5_takesErrand_45
    rw [ift, if_neg (by decide), if_neg (by decide), zc.1, zc.2.1, k0, d1, bs, at29, at30, ck_in (n := 52) (by omega) (by decide), nI_clamp (n := 29 + 2 * a.1 8) (by omega), if_neg (by decide), if_neg (by decide), bnd_eq, ck_in (n := 52) (by omega) (by decide), nI_clamp (n := 30 + 2 * a.1 8) (by omega), if_neg (by decide), bnd_eq, if_neg (by decide), pk_un (by omega), pk_un (by omega), eM, nI_1, m0, ← v1, ← v2]
    exact ⟨_, _, _, _, _, rfl, rfl, ir_t (s2.trans s1) (fr0.tr (f1.tr f2)) d2 (by omega) P2⟩
theorem it_rule {N : Nat} (hN : 200000 ≤ N) {tx : Nat → Int32} {B : Nat → Nat} {n p s e k : Nat} {vr vm vd : US} {nx : Nat → Int32} (hT : TB tx B n) (tok : Tok B n p s e k) (hX : XT vr B n s e k) (hM : MT vm B s e k) (hB : MB vm B n) (hD : Dr vd nx) : ∃ b vr' vd' vm' nx', f_X5_takesRule N vr vd tx = some (b, vr', vd') ∧ f_X12_readsRule N vm nx = some (b, vm', nx') ∧ IR B n vr vm e b vr' vd' vm' nx' := by
  obtain ⟨a, hv, hx, hm⟩ := id hD
  have h11 := hv.2.2.2.2.2.1
  have eX := hx.2.2.2.2.2.1
  have eM : nx 39 = nI (a.1 11) := (ext_lt (by decide)).symm.trans hm.2.2.2.2.1
  have e0 : vd.1 0 = nx 0 := hx.1.trans (hm.1.symm.trans (ext_lt (by decide)))
  have F64 : ∀ vr', b_X5_takesRule_64 N vr' vd tx = some (false, vr', vd) := fun vr' => by
    unfold b_X5_takesRule_64 b_X5_takesRule_65
    rw [iff0]
  obtain ⟨vm0, g1, P0, fr0⟩ := go_x hN tok hX hM hB
  unfold f_X5_takesRule f_X12_readsRule f_X12_takesPull
  rw [if_neg (show ¬ ((39 : Int32) < 0 ∨ 52 ≤ (39 : Int32).toNatClampNeg) by decide), zc.2.2.2.2.2.1, eX, eM]
  by_cases c : a.1 11 = 4
  · rw [if_pos (show (4 : Int32) ≤ nI (a.1 11) from nI_le (a := 4) (by omega) (by omega)), if_pos (show nI (a.1 11) = 4 by rw [c]; rfl), F64]
    exact ⟨_, _, _, _, _, rfl, rfl, ir_f rfl (FrV.rf _) (hX.1.trans hM.1.symm)⟩
  · rw [if_neg (show ¬ (4 : Int32) ≤ nI (a.1 11) from nI_nle2 (a := 4) (by omega) (by decide)), if_neg (show ¬ nI (a.1 11) = 4 from fun q => c ((nI_eq (b := 4) (by omega) (by decide)).mp q)), g1, bs, if_neg (show ¬ ((0 : Int32) < 0 ∨ 52 ≤ (0 : Int32).toNatClampNeg) by decide), zc.1, e0]
    obtain ⟨b1, vr1, vm1, q1, r1, s1, f1, t1, u1⟩ := pn_x hN hT P0 (i := 0) (by decide) 0 (nx 0 - 1)
    have q1 : f_X5_takesNumber N vr tx 0 0 (nx 0 - 1) = some (b1, vr1) := q1
    have r1 : f_X12_takes N vm0 0 0 (nx 0 - 1) = some (b1, vm1) := r1
    simp only [q1, r1, bs]
    cases b1
    · simp only [iff0, F64, bs]
      exact ⟨_, _, _, _, _, rfl, rfl, ir_f s1 (fr0.tr f1) (t1 rfl)⟩
    simp only [ift]
    obtain ⟨⟨p1, l1, P1⟩, w1, v1, -, -⟩ := u1 rfl
    obtain ⟨b2, vr2, vm2, q2, r2, s2, f2, t2, u2⟩ := pn_x hN hT P1 (i := 1) (by decide) 0 20
    have q2 : f_X5_takesNumber N vr1 tx 1 0 20 = some (b2, vr2) := q2
    have r2 : f_X12_takes N vm1 1 0 20 = some (b2, vm2) := r2
    simp only [q2, r2, bs]
    cases b2
    · simp only [iff0, F64, bs]
      exact ⟨_, _, _, _, _, rfl, rfl, ir_f (s2.trans s1) (fr0.tr (f1.tr f2)) (t2 rfl)⟩
    simp only [ift, bs]
    obtain ⟨⟨p2, l2, P2⟩, w2, v2, x2, y2⟩ := u2 rfl
    obtain ⟨b3, vr3, vm3, q3, r3, s3, f3, t3, u3⟩ := pn_x hN hT P2 (i := 2) (by decide) 0 ((1 <<< (nx 0 &&& 31)) - 1)
    have q3 : f_X5_takesNumber N vr2 tx 2 0 ((1 <<< (nx 0 &&& 31)) - 1) = some (b3, vr3) := q3
    have r3 : f_X12_takes N vm2 2 0 ((1 <<< (nx 0 &&& 31)) - 1) = some (b3, vm3) := r3
    rw [if_neg (show ¬ ((0 : Int32) < 0 ∨ 52 ≤ 0) by decide)]
    simp only [q3, r3, bs]
    cases b3
    · simp only [iff0, F64, bs]
      exact ⟨_, _, _, _, _, rfl, rfl, ir_f (s3.trans (s2.trans s1)) (fr0.tr (f1.tr (f2.tr f3))) (t3 rfl)⟩
    simp only [ift, bs]
    obtain ⟨⟨p3, l3, P3⟩, w3, v3, x3, y3⟩ := u3 rfl
    have k0 : vr3.2.2 8 0 = vr1.2.2 8 0 := (x3 0 (by decide)).trans (x2 0 (by decide))
    have k1 : vr3.2.2 8 1 = vr2.2.2 8 1 := x3 1 (by decide)
    have m0 : vm3.2.2 23 0 = vm1.2.2 23 0 := (y3 0 (by decide)).trans (y2 0 (by decide))
    have m1 : vm3.2.2 23 1 = vm2.2.2 23 1 := y3 1 (by decide)
    have ht : f_X9_hasThing vd (vr1.2.2 8 0) = some true := by
      unfold f_X9_hasThing
      rw [e0, w1, bs]
    have hs : f_X9_hasSet vd (vr3.2.2 8 2) = some true := by
      unfold f_X9_hasSet
      rw [e0, w3, bs]
    obtain ⟨vd', nx', d1, d2, d3⟩ := dr_rule hN hD (R := a.1 11) (by omega) eX eM e0 ht w2 hs
    unfold b_X5_takesRule_65
    rw [ift, if_neg (by decide), if_neg (by decide), if_neg (by decide), zc.1, zc.2.1, zc.2.2.1, k0, k1, d1, bs, if_neg (by decide), if_neg (by decide), if_neg (by decide), m0, m1, ← v1, ← v2, ← v3, d2, bs]
    exact ⟨_, _, _, _, _, rfl, rfl, ir_t (s3.trans (s2.trans s1)) (fr0.tr (f1.tr (f2.tr f3))) d3 (by omega) P3⟩
