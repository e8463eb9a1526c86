theorem zp_cost : zh_cost zi_Inv := by
  intro v_sm_asked v_sm_traced v_tx_length f_tx_bytes f_tx_tokens f_tx_places v_rd_at v_rd_token v_rd_fault v_td_laws v_td_there v_td_sayers f_td_says f_td_weights v_sp_laws v_sp_there v_sp_sayers f_sp_says f_sp_weights v_ds_alike f_ds_costs f_ds_lengths f_sm_fars f_sm_common f_sm_others f_sm_scale v_md_length v_md_laws v_md_sayers v_md_there v_md_question v_md_measure v_md_trace v_md_readLaws v_md_readSayers v_md_readThere v_md_begin v_md_end v_md_sort v_md_open v_md_level v_md_said f_md_text f_md_weight f_md_says f_md_cost f_md_readWeight f_md_readSays f_md_opened f_md_any f_md_all f_md_burdens f_md_best f_md_own f_md_truth x0 x1 hI
  obtain ⟨n, k, c, al, h1, h2, h3, h4, h5, ⟨s1, s2, s3, s4⟩, ⟨d1, d2, d3, d4⟩, h7, h8⟩ := id hI
  have e0 : (0 : Int32).toInt = 0 := rfl
  have e6 : (6 : Int32).toInt = 6 := rfl
  have e9 : (9 : Int32).toInt = 9 := rfl
  unfold zf_X4_cost zf_X5_cost
  have hin := zs_in2 x0 5 (by omega)
  have hl1 : (lN 5 : Int64) = 5 := rfl
  rw [hl1] at hin
  have hin2 := zs_in2 x1 9 (by omega)
  have hl2 : (lN 9 : Int64) = 9 := rfl
  rw [hl2] at hin2
  rcases hin with ⟨i, hi, ei, q⟩ | ⟨q3, q4⟩
  · rw [q, Option.bind_some, if_neg (show ¬ (1 : Int32) = 0 by decide)]
    rcases hin2 with ⟨v, hv, ev, r⟩ | ⟨r3, r4⟩
    · rw [r, Option.bind_some, if_neg (show ¬ (1 : Int32) = 0 by decide), ei, ev, if_neg (nI_pos (by omega)), if_neg (show ¬ (6 : Int32) ≤ nI i from nI_ge (b := 6) (by omega) (by decide)), if_neg (nI_pos (by omega)), if_pos (show nI v ≤ (9 : Int32) from nI_le (b := 9) (by omega) (by decide)), zs_zin (n := i) (by omega) (by omega), nI_clamp (by omega), s2]
      have hcc : ∀ l, l < 6 → (fun l => if l = i then v else c l) l ≤ 9 ∧ upd f_ds_costs i (nI v) l = nI ((fun l => if l = i then v else c l) l) := by
        intro l hl
        by_cases e : l = i
        · subst e
          rw [pk_us]
          show (if l = l then v else c l) ≤ 9 ∧ nI v = nI (if l = l then v else c l)
          rw [if_pos rfl]
          exact ⟨hv, rfl⟩
        · rw [pk_un e]
          show (if l = i then v else c l) ≤ 9 ∧ f_ds_costs l = nI (if l = i then v else c l)
          rw [if_neg e]
          exact ⟨(d3 l hl).1, (d3 l hl).2.1⟩
      have hcm : ∀ l, l < 6 → upd f_md_cost i (nI v) l = nI ((fun l => if l = i then v else c l) l) := by
        intro l hl
        by_cases e : l = i
        · subst e
          rw [pk_us]
          show nI v = nI (if l = l then v else c l)
          rw [if_pos rfl]
        · rw [pk_un e]
          show f_md_cost l = nI (if l = i then v else c l)
          rw [if_neg e]
          exact (d3 l hl).2.2
      obtain ⟨g, g1, g2, g3⟩ := zs_fars (al := al) (me := v_ds_alike) d1 hcc s1 f_td_says f_ds_lengths f_sm_fars
      refine ⟨(f_ds_costs i, upd f_ds_costs i (nI v), g.1, g.2), (f_md_cost i, upd f_md_cost i (nI v)), ?_, rfl, ?_, n, k, _, al, h1, h2, h3, h4, h5, ⟨s1, rfl, s3, s4⟩, ⟨d1, d2, fun l hl => ⟨(hcc l hl).1, (hcc l hl).2, hcm l hl⟩, g2⟩, g3, h8⟩
      · show ((zf_X4_findFars (nI k) f_td_says v_ds_alike (upd f_ds_costs i (nI v)) f_ds_lengths f_sm_fars).bind (fun v3 => some (f_ds_costs i, upd f_ds_costs i (nI v), v3.1, v3.2))) = _
        rw [g1]; rfl
      · show f_ds_costs i = f_md_cost i
        rw [(d3 i (by omega)).2.1, (d3 i (by omega)).2.2]
    · rw [r4, Option.bind_some, if_pos rfl]
      have hl : (if x0 < 0 then some ((-1 : Int32), f_ds_costs, f_ds_lengths, f_sm_fars) else if (6 : Int32) ≤ x0 then some ((-1 : Int32), f_ds_costs, f_ds_lengths, f_sm_fars) else if x1 < 0 then some ((-1 : Int32), f_ds_costs, f_ds_lengths, f_sm_fars) else if x1 ≤ (9 : Int32) then zk_gd (zk_in x0 6) (zk_lt (f_ds_costs x0.toNatClampNeg) (fun y2 => (zf_X4_findFars v_td_sayers f_td_says v_ds_alike (upd f_ds_costs x0.toNatClampNeg x1) f_ds_lengths f_sm_fars).bind (fun v3 => some (y2, upd f_ds_costs x0.toNatClampNeg x1, v3.1, v3.2)))) else some ((-1 : Int32), f_ds_costs, f_ds_lengths, f_sm_fars)) = some ((-1 : Int32), f_ds_costs, f_ds_lengths, f_sm_fars) := by
        by_cases a1 : x0 < 0
        · rw [if_pos a1]
        · rw [if_neg a1]
          by_cases a2 : (6 : Int32) ≤ x0
          · rw [if_pos a2]
          · rw [if_neg a2]
            by_cases a3 : x1 < 0
            · rw [if_pos a3]
            · rw [if_neg a3, if_neg]
              rw [Int32.lt_iff_toInt_lt] at a3
              rw [Int32.le_iff_toInt_le]
              omega
      exact ⟨_, _, hl, rfl, rfl, hI⟩
  · rw [q4, Option.bind_some, if_pos rfl]
    by_cases a1 : x0 < 0
    · rw [if_pos a1]
      exact ⟨_, _, rfl, rfl, rfl, hI⟩
    · have a2 : (6 : Int32) ≤ x0 := by
        rw [Int32.lt_iff_toInt_lt] at a1
        rw [Int32.le_iff_toInt_le]
        omega
      rw [if_neg a1, if_pos a2]
      exact ⟨_, _, rfl, rfl, rfl, hI⟩
