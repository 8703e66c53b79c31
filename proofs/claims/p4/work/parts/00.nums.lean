-- ===== numbers of kinds and fields =====
def g_tree : Nat := 12
def g_treeC : Nat := 11
def g_total : Nat := 5
def g_items : Nat := 4
def g_aitems : Nat := 173
def g_vols : Nat := 32
def g_vol : Nat := 13
def g_volC : Nat := 12
def g_size : Nat := 1
def g_facts : Nat := 160
