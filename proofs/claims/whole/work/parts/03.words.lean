abbrev vwCl : List vw_C := [(RX0, TX0, 6), (RX1, TX1, 11), (RX2, TX2, 2), (RX3, TX3, 6), (RX4, TX4, 10), (RX5, TX5, 12), (RX6, TX6, 28)]
/-- the words that hold in every state that a call begins with -/
def ip_Ts : List Cond := lw_tbl.filter goodWord
theorem ip_Ts_good {w : Cond} (h : w ∈ ip_Ts) : goodWord w = true := (List.mem_filter.mp h).2
theorem ip_in {w : Cond} (h : w ∈ tables_1) (hg : goodWord w = true) : w ∈ ip_Ts := List.mem_filter.mpr ⟨List.mem_append_right _ h, hg⟩
theorem ip_inS {w : Cond} (h : w ∈ k2_sels lw_privs) (hg : goodWord w = true) : w ∈ ip_Ts := List.mem_filter.mpr ⟨List.mem_append_left _ h, hg⟩
