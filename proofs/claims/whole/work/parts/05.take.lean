theorem mr_iz (m k : Nat) : 5 * nI m + 5 + nI k = nI (5 * (m + 1) + k) := by
  rw [show (5 : Int32) = nI 5 from rfl, pk_mul, nI_add, nI_add]
  exact congrArg nI (by omega)
section
variable (d c x : Int32) (dw so go le th : Nat → Int32)
theorem mr_copy {m : Nat} (hm : m + 1 < 20) : ∀ n k : Nat, k + n = 5 → ∀ wo : Nat → Int32, ∃ wo' : Nat → Int32, (∀ post : SX → Prop, post (d, c, x, dw, so, go, le, th, wo') → wX_copyDown_50 post (nI (m + 1)) (nI m) d c x (n + 1) (nI k) dw so go le th wo) ∧ (∀ (post : Int32 → SY → Prop) (J : Int32 → (Nat → Int32) → (Nat → Int32) → (Nat → Int32) → (Nat → Int32) → (Nat → Int32) → (Nat → Int32) → Prop) (x4 : Int32), J (nI (m + 1)) dw so go le wo' th → wY_take_111 post J x4 (nI m) d c x (n + 1) (nI k) dw so go le wo th) := by
  intro n
  induction n with
  | zero =>
    intro k hk wo
    have h : (5 : Int32) ≤ nI k := nI_le (a := 5) (by omega) (by omega)
    exact ⟨wo, fun _ hp => br_t h hp, fun _ _ _ hp => br_t h (nm_r (nI_1 m) hp)⟩
  | succ n ih =>
    intro k hk wo
    have h : ¬ (5 : Int32) ≤ nI k := nI_ge (b := 5) (by omega) (by decide)
    have h1 : vp_in (nI (5 * (m + 1) + k)) 100 := vp_in_nI (by omega) (by decide)
    have h2 : vp_in (nI (5 * m + k)) 100 := vp_in_nI (by omega) (by decide)
    obtain ⟨wo', hX, hY⟩ := ih (k + 1) (by omega) (upd wo (nI (5 * m + k)).toNatClampNeg (wo (nI (5 * (m + 1) + k)).toNatClampNeg))
    refine ⟨wo', fun post hp => br_f h ?_, fun post J x4 hp => br_f h ?_⟩
    · rw [mr_ix, mr_ix]
      exact ⟨h1, h2, nm_e (nm_r (nI_1 k) (hX post hp))⟩
    · rw [mr_iz, mr_iy]
      exact ⟨h1, h2, nm_e (nm_r (nI_1 k) (hY post J x4 hp))⟩
end
section
variable (d x : Int32) (dw : Nat → Int32)
theorem mr_remove {c : Nat} (hc : c < 20) : ∀ n m : Nat, m + n = c → ∀ so go le th wo : Nat → Int32, mr_ok (c + 1) so go le → ∃ so' go' le' th' wo' : Nat → Int32, mr_ok (c + 1) so' go' le' ∧ (∀ post : SX → Prop, post (d, nI c, x, dw, so', go', le', th', wo') → wX_remove_12 post (n + 1) (nI m) d (nI c) x dw so go le th wo) ∧ (∀ (post : Int32 → SY → Prop) (x4 : Int32), post x4 (d, nI c, x, dw, so', go', le', wo', th') → wY_take_35 post x4 d (nI c) x (n + 1) (nI m) dw so go le wo th) := by
  intro n
  induction n with
  | zero =>
    intro m hm so go le th wo hok
    have h : nI c ≤ nI m := nI_le (by omega) (by omega)
    exact ⟨so, go, le, th, wo, hok, fun _ hp => br_t h hp, fun _ _ hp => br_t h hp⟩
  | succ n ih =>
    intro m hm so go le th wo hok
    have h : ¬ nI c ≤ nI m := nI_ge (by omega) (by omega)
    have hi : vp_in (nI m) 20 := vp_in_nI (by omega) (by decide)
    have hj : vp_in (nI (m + 1)) 20 := vp_in_nI (by omega) (by decide)
    have hok' := mr_okU hok (m := (nI m).toNatClampNeg) (a := so (nI (m + 1)).toNatClampNeg) (b := go (nI (m + 1)).toNatClampNeg) (e := le (nI (m + 1)).toNatClampNeg) (by rw [nI_clamp (by omega)]; exact (hok (m + 1) (by omega)).1) (by rw [nI_clamp (by omega)]; exact (hok (m + 1) (by omega)).2.1) (by rw [nI_clamp (by omega)]; exact (hok (m + 1) (by omega)).2.2)
    obtain ⟨w, wX, wY⟩ := mr_copy d (nI c) x dw (upd so (nI m).toNatClampNeg (so (nI (m + 1)).toNatClampNeg)) (upd go (nI m).toNatClampNeg (go (nI (m + 1)).toNatClampNeg)) (upd le (nI m).toNatClampNeg (le (nI (m + 1)).toNatClampNeg)) (upd th (nI m).toNatClampNeg (vp_nar .boolean (th (nI (m + 1)).toNatClampNeg))) (m := m) (by omega) 5 0 rfl wo
    obtain ⟨so', go', le', th', wo', hok2, hX, hY⟩ := ih (m + 1) (by omega) _ _ _ (upd th (nI m).toNatClampNeg (vp_nar .boolean (th (nI (m + 1)).toNatClampNeg))) w hok'
    refine ⟨so', go', le', th', wo', hok2, fun post hp => br_f h ?_, fun post x4 hp => br_f h ?_⟩
    · rw [nI_1]
      exact ⟨hj, hi, nm_e ⟨hj, hi, nm_e ⟨hj, hi, nm_e ⟨hj, hi, nm_e ⟨_, wX _ (nm_e (hX post hp))⟩⟩⟩⟩⟩
    · rw [nI_1]
      exact ⟨hj, hi, nm_e ⟨hj, hi, nm_e ⟨hj, hi, nm_e ⟨hj, hi, nm_e ⟨_, wY _ _ _ (hY post x4 hp)⟩⟩⟩⟩⟩
end
theorem i_vc_take {k : Nat} {u : SX} {v : SY} (I : i_Rel k u v) (hk : k + 4 ≤ 2048) (v1 : Int32) (v2 : Int32) : wpX_take (fun r u' => wpY_take (fun r' v' => r' = r ∧ i_Rel (k + 4) u' v') v v1 v2) u v1 v2 := by
  have J : i_Rel (k + 4) u v := i_up I
  obtain ⟨d, c, x, dw, so, go, le, th, wo, rfl, rfl, hd, hc, hm⟩ := I
  obtain ⟨r, hr, hX, hY⟩ := mr_fnd (nI d) x dw so go le th wo hc v1 v2 0
  unfold wpX_take wpY_take; dsimp only
  rcases hr with rfl | ⟨j, hj, rfl⟩
  · exact hX _ (br_t rfl (hY _ (br_f mr_m1 ⟨rfl, J⟩)))
  · have hi : vp_in (nI j) 20 := vp_in_nI (by omega) (by decide)
    obtain ⟨c', rfl⟩ : ∃ c', c = c' + 1 := ⟨c - 1, by omega⟩
    obtain ⟨so', go', le', th', wo', hok, rX, rY⟩ := mr_remove (nI d) x dw (c := c') (by omega) (c' - j) j (by omega) so go le th wo hm
    refine hX _ (br_f (mr_nm1 (by omega)) ⟨hi, nm_e ?_⟩)
    unfold wpX_remove; dsimp only
    refine nm_r (nI_pred c') ⟨_, rX _ ?_⟩
    refine hY _ (br_t (nI_pos' (by omega)) ⟨hi, nm_e (nm_r (nI_pred c') ⟨_, rY _ _ ⟨rfl, ?_⟩⟩)⟩)
    exact mr_mk hd (by omega) (fun i h => hok i (by omega))
