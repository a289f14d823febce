/-! PURE PART XXXVII: every call of the script keeps class and reference together -/
theorem law_pure (L : Nat) (xs : Nat → Int32) (hL : L ≤ 1536) : LawPure L xs := by
  refine ⟨fun x_firstEnd x_secondEnd x_there x_graph_near x_graph_nearTwice x_graph_present _ _ _ _ x_pieces_startAt _ _ _ _ _ _ _ _ _ _ _ _ x_nodes_kindOf x_nodes_sizeOf x_nodes_above x_nodes_lesser x_nodes_greater x_nodes_inside x_nodes_ofEdge x_nodes_count x_made x_alive x_built _ m_made m_ends m_there m_tree m_items m_one m_two m_what m_piece _ _ m_kinds _ _ m_nodes m_pieceOf m_numberOf m_ups m_jointUp m_partner _ _ _ => GS x_firstEnd x_secondEnd x_there x_graph_near x_graph_nearTwice x_graph_present x_pieces_startAt x_nodes_kindOf x_nodes_sizeOf x_nodes_above x_nodes_lesser x_nodes_greater x_nodes_inside x_nodes_ofEdge x_nodes_count x_made x_alive x_built m_made m_ends m_there m_tree m_items m_one m_two m_what m_piece m_kinds m_nodes m_pieceOf m_numberOf m_ups m_jointUp m_partner, ?_, ?_⟩
  · refine ⟨0, rfl, rfl, ⟨by omega, fun e he => absurd he (by omega)⟩, fun e he => absurd he (by omega), rfl, ?_, rfl, Or.inl ⟨rfl, rfl⟩⟩
    rw [cnt_none (fun x _ k => absurd k.1 (by omega))]
    rfl
  · intro j x_firstEnd x_secondEnd x_there x_graph_near x_graph_nearTwice x_graph_present x_pieces_firstEnd x_pieces_secondEnd x_pieces_home x_pieces_kindOf x_pieces_startAt x_pieces_links_near x_pieces_links_nearTwice x_pieces_links_present x_pieces_slots x_pieces_count x_order_row x_order_above x_order_sideUp x_order_number x_order_least x_order_weight x_order_count x_nodes_kindOf x_nodes_sizeOf x_nodes_above x_nodes_lesser x_nodes_greater x_nodes_inside x_nodes_ofEdge x_nodes_count x_made x_alive x_built m_thrown m_made m_ends m_there m_tree m_items m_one m_two m_what m_piece m_pieces m_joints m_kinds m_group m_many m_nodes m_pieceOf m_numberOf m_ups m_jointUp m_partner m_beyonds m_gone o hj S k _
    have S : GS x_firstEnd x_secondEnd x_there x_graph_near x_graph_nearTwice x_graph_present x_pieces_startAt x_nodes_kindOf x_nodes_sizeOf x_nodes_above x_nodes_lesser x_nodes_greater x_nodes_inside x_nodes_ofEdge x_nodes_count x_made x_alive x_built m_made m_ends m_there m_tree m_items m_one m_two m_what m_piece m_kinds m_nodes m_pieceOf m_numberOf m_ups m_jointUp m_partner := S
    have i1 : vp_in (nI (3 * j) + 1) L := by rw [zI_succ]; exact (in_nI (by omega)).mpr (by omega)
    have i2 : vp_in (nI (3 * j) + 2) L := by rw [zI_two]; exact (in_nI (by omega)).mpr (by omega)
    -- what the askings need
    have T : ∃ mk, x_made = nI mk ∧ m_made = nI mk ∧ GC x_firstEnd x_secondEnd mk ∧ RG x_firstEnd x_secondEnd m_ends mk ∧ m_there = x_there ∧ x_alive = nI (cnt 100 (Ed mk x_there)) ∧ ST (Ed mk x_there) (In x_firstEnd x_secondEnd) x_nodes_kindOf x_nodes_sizeOf x_nodes_above x_nodes_lesser x_nodes_greater x_nodes_inside x_nodes_ofEdge x_nodes_count x_built m_tree m_items m_one m_two m_what m_piece m_kinds m_nodes m_pieceOf m_numberOf m_ups m_jointUp m_partner ∧ ((x_built = 0 ∧ m_tree = 0) ∨ (x_built = 1 ∧ m_tree = 1 ∧ Fit (Ed mk x_there) (In x_firstEnd x_secondEnd) ∧ Lk (Ed mk x_there) (en x_firstEnd) (en x_secondEnd) x_graph_near x_graph_nearTwice x_graph_present ∧ ∃ c sl' ct', x_nodes_count = nI c ∧ TR (Ed mk x_there) (In x_firstEnd x_secondEnd) x_nodes_kindOf x_nodes_sizeOf x_nodes_above x_nodes_lesser x_nodes_greater x_nodes_inside x_nodes_ofEdge m_one m_two m_what m_piece m_kinds m_pieceOf m_numberOf m_ups m_jointUp m_partner c sl' ct')) := by
      obtain ⟨mk, e1, e2, G, R, e3, e4, e5, hs⟩ := id S
      refine ⟨mk, e1, e2, G, R, e3, e4, ?_, ?_⟩
      · rcases hs with hs | ⟨b, t, F, Lg, c, sl', ct', f1, f2, f3, TT⟩
        · exact Or.inl hs
        · exact Or.inr ⟨b, t, c, sl', ct', f1, f2, f3, G.gr, F.two G.gr, TT⟩
      · rcases hs with hs | ⟨b, t, F, Lg, c, sl', ct', f1, f2, f3, TT⟩
        · exact Or.inl hs
        · exact Or.inr ⟨b, t, F, Lg, c, sl', ct', f1, TT⟩
    obtain ⟨mk, rfl, rfl, G, R, rfl, e4, ss, hs⟩ := T
    have hs2 : (x_built = 0 ∧ m_tree = 0) ∨ (x_built = 1 ∧ m_tree = 1 ∧ Fit (Ed mk m_there) (In x_firstEnd x_secondEnd) ∧ Lk (Ed mk m_there) (en x_firstEnd) (en x_secondEnd) x_graph_near x_graph_nearTwice x_graph_present) := hs.imp id fun y => ⟨y.1, y.2.1, y.2.2.1, y.2.2.2.1⟩
    match k with
    | 0 => exact law0 S i1 i2 (fun _ _ _ _ _ _ _ _ _ _ _ _ y => y)
    | 1 => exact law1 S i1 (fun _ _ _ _ _ _ y => y)
    | 2 => exact law2 (L := L) (xs := xs) (i := nI (3 * j)) S (fun _ => S)
    | 3 => exact law3 (L := L) (xs := xs) (i := nI (3 * j)) S (fun _ _ _ _ _ _ _ _ _ _ _ _ _ _ _ _ _ _ _ _ _ _ _ _ _ _ _ _ _ _ _ _ _ _ _ _ _ _ _ _ _ _ _ _ _ _ _ _ _ y => y)
    | 4 => exact law4 ss i1 (fun _ _ => S)
    | 5 => exact law5 ss i1 (fun _ _ => S)
    | 6 => exact law6 ss i1 (fun _ _ => S)
    | 7 => exact law7 ss i1 i2 (fun _ _ => S)
    | 8 => exact law8 ss i1 (fun _ _ => S)
    | 9 => exact law9 ss i1 i2 (fun _ _ => S)
    | 10 => exact law10 ss G.1 i1 (fun _ _ => S)
    | 11 => exact law11 ss i1 i2 (fun _ _ => S)
    | 12 => exact law12 hs2 G R e4 i1 i2 (fun _ _ _ _ => S)
    | 13 => exact law13 hs G R i1 i2 (fun _ _ _ => S)
    | _ + 14 => exact S
