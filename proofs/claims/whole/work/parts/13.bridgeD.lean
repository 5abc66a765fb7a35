/-! Jumps and switches. -/
theorem jmp_good {M d i pc : Nat} {t : Mth} {K : Nat → MLoc → List Value → MH → MRes} {rec : MRec} (hPg : Pg M = some t) (hK : ∀ s ls st h rv h', K s ls st h = some (rv, h') → Gd M d (pcN t.code (i + 1 + s)) ls st h rv h') (hrec : ∀ M d i ls st h rv h', rec M d i ls st h = some (rv, h') → Good M d i ls st h rv h')
    {off : Int} {inf : List Nat} {ls : MLoc} {st : List Value} {h : MH} {rv : Option Value} {h' : MH} (ok : okJ t.code i pc off inf = true) (hr : jmp K rec M d inf ls st h = some (rv, h')) : ∃ tgt : Nat, (pc : Int) + off = (tgt : Int) ∧ Gd M d tgt ls st h rv h' := by
  unfold jmp at hr
  split at hr
  · exact ⟨_, of_decide_eq_true ok, hK _ _ _ _ _ _ hr⟩
  · exact ⟨_, of_decide_eq_true ok, Gd.msk _ (hrec _ _ _ _ _ _ _ _ hr t hPg)⟩
  · cases hr
theorem cI_toInt {v : Int} (h1 : -1000 < v) (h2 : v < 1000) : (cI v).toInt = v := by
  cases v with
  | ofNat n =>
    show (nI n).toInt = _
    have : n < 1000 := by have h3 : (n : Int) < 1000 := h2; omega
    exact nI_toInt (by omega)
  | negSucc n =>
    show (Int32.ofInt (-((n + 1 : Nat) : Int))).toInt = _
    rw [Int32.toInt_ofInt_of_le (by omega) (by omega)]
    omega
theorem cI_eq {v : Int} {x : Int32} (h1 : -1000 < v) (h2 : v < 1000) : x = cI v ↔ x.toInt = v := by
  constructor
  · intro h; rw [h]; exact cI_toInt h1 h2
  · intro h; exact Int32.toInt_inj.mp (by rw [cI_toInt h1 h2]; exact h)
theorem br_inv {c : Prop} {dc : Decidable c} {a b : MRes} {r : Option Value × MH} (h : br c a b = some r) : (c ∧ a = some r) ∨ (¬ c ∧ b = some r) := by
  unfold br at h
  split at h
  · exact Or.inl ⟨by assumption, h⟩
  · exact Or.inr ⟨by assumption, h⟩
theorem jsw_tbk {x : Int32} {df : Nat} {k : Nat → MRes} {r : Option Value × MH} : ∀ (ts : List Nat) (lo : Int), -1000 < lo → lo + (ts.length : Int) ≤ 1000 → jsw (tbk lo ts) x df k = some r →
    (∃ (j tt : Nat), ts[j]? = some tt ∧ x.toInt = lo + (j : Int) ∧ k tt = some r) ∨ ((x.toInt < lo ∨ lo + (ts.length : Int) ≤ x.toInt) ∧ k df = some r)
  | [], lo, _, _, h => by
    right
    refine ⟨?_, h⟩
    simp only [List.length_nil]
    omega
  | t :: ts, lo, h1, h2, h => by
    simp only [List.length_cons] at h2
    rcases br_inv h with ⟨hc, hk⟩ | ⟨hc, hk⟩
    · left
      refine ⟨0, t, rfl, ?_, hk⟩
      rw [(cI_eq h1 (by omega)).mp hc]
      simp
    · have hne : ¬ x.toInt = lo := fun q => hc ((cI_eq h1 (by omega)).mpr q)
      rcases jsw_tbk ts (lo + 1) (by omega) (by omega) hk with ⟨j, tt, a, b, c⟩ | ⟨a, b⟩
      · left
        exact ⟨j + 1, tt, by simpa using a, by rw [b]; push_cast; omega, c⟩
      · right
        refine ⟨?_, b⟩
        simp only [List.length_cons]
        omega
theorem okTs_at {c : List Ent} {i pc : Nat} : ∀ (os : List Int) (ts : List Nat), okTs c i pc os ts = true → os.length = ts.length ∧ ∀ (j tt : Nat), ts[j]? = some tt → ∃ o, os[j]? = some o ∧ (pc : Int) + o = (pcN c (i + 1 + tt) : Int)
  | [], [], _ => ⟨rfl, fun j tt h => by simp at h⟩
  | o :: os, t :: ts, h => by
    simp only [okTs, Bool.and_eq_true, decide_eq_true_eq] at h
    obtain ⟨h1, h2⟩ := okTs_at os ts h.2
    refine ⟨by simp [h1], fun j tt hj => ?_⟩
    cases j with
    | zero =>
      have : t = tt := by simpa using hj
      subst this
      exact ⟨o, rfl, h.1⟩
    | succ j =>
      obtain ⟨o', a, b⟩ := h2 j tt (by simpa using hj)
      exact ⟨o', by simpa using a, b⟩
  | [], _ :: _, h => by simp [okTs] at h
  | _ :: _, [], h => by simp [okTs] at h
theorem jsw_lkk {c : List Ent} {i pc : Nat} {x : Int32} {df : Int} {tdf : Nat} {k : Nat → MRes} {r : Option Value × MH} (hdf : (pc : Int) + df = (pcN c (i + 1 + tdf) : Int)) : ∀ (ps : List (Int × Int)) (ts : List Nat), okTs c i pc (ps.map (fun q => q.2)) ts = true → (ps.all (fun q => decide (-1000 < q.1) && decide (q.1 < 1000))) = true → jsw (lkk ps ts) x tdf k = some r →
    ∃ tt : Nat, (pc : Int) + Op.lookupswitch.offset ps df x.toInt = (pcN c (i + 1 + tt) : Int) ∧ k tt = some r
  | [], [], _, _, h => ⟨tdf, by rw [show Op.lookupswitch.offset [] df x.toInt = df from rfl]; exact hdf, h⟩
  | p :: ps, t :: ts, h1, h2, h => by
    simp only [List.map_cons, okTs, Bool.and_eq_true, decide_eq_true_eq] at h1
    simp only [List.all_cons, Bool.and_eq_true, decide_eq_true_eq] at h2
    rcases br_inv h with ⟨hc, hk⟩ | ⟨hc, hk⟩
    · refine ⟨t, ?_, hk⟩
      rw [Op.lookupswitch.offset_cons, if_pos ((cI_eq h2.1.1 h2.1.2).mp hc).symm]
      exact h1.1
    · obtain ⟨tt, a, b⟩ := jsw_lkk hdf ps ts h1.2 (by simpa only [List.all_eq_true, Bool.and_eq_true, decide_eq_true_eq] using h2.2) hk
      refine ⟨tt, ?_, b⟩
      rw [Op.lookupswitch.offset_cons, if_neg (fun q => hc ((cI_eq h2.1.1 h2.1.2).mpr q.symm))]
      exact a
  | [], _ :: _, h1, _, _ => by simp [okTs] at h1
  | _ :: _, [], h1, _, _ => by simp [okTs] at h1
