-- 14.ctor1: the constructors as tables, a machine that runs them (tables by program gen14.py)
def T_X0_init : Tab := [
  [some ((.aload_n 0, 1), 0, 0, 0, []), some ((.invokespecial 3, 3), 99, 1, 0, []), none, none, some ((.return_, 1), 0, 0, 0, [])]]
def T_X1_init : Tab := [
  [some ((.aload_n 0, 1), 0, 0, 0, []), some ((.invokespecial 3, 3), 99, 1, 0, []), none, none, some ((.aload_n 0, 1), 0, 0, 0, []), some ((.aload_n 1, 1), 1, 0, 0, []), some ((.putfield 9, 3), 1, 0, 0, []), none, none, some ((.aload_n 0, 1), 0, 0, 0, []), some ((.bipush 10, 2), 0, 0, 10, []), none, some ((.anewarray 15, 3), 3, 0, 0, []), none, none, some ((.putfield 17, 3), 1, 1, 0, [])],
  [none, none, some ((.iconst 0, 1), 0, 0, 0, []), some ((.istore_n 2, 1), 2, 0, 0, []), some ((.iload_n 2, 1), 2, 0, 0, []), some ((.bipush 10, 2), 0, 0, 10, []), none, some ((.if_icmp .ge 22, 3), 45, 0, 0, []), none, none, some ((.aload_n 0, 1), 0, 0, 0, []), some ((.getfield 17, 3), 1, 1, 0, []), none, none, some ((.iload_n 2, 1), 2, 0, 0, []), some ((.new 15, 3), 0, 0, 0, [])],
  [none, none, some ((.dup, 1), 0, 0, 0, []), some ((.invokespecial 21, 3), 0, 1, 0, []), none, none, some ((.aastore, 1), 0, 0, 0, []), some ((.iinc 2 1, 3), 2, 0, 1, []), none, none, some ((.goto (-22), 3), 20, 0, 0, []), none, none, some ((.aload_n 0, 1), 0, 0, 0, []), some ((.bipush 9, 2), 0, 0, 9, []), none],
  [some ((.anewarray 22, 3), 4, 0, 0, []), none, none, some ((.putfield 24, 3), 1, 3, 0, []), none, none, some ((.iconst 0, 1), 0, 0, 0, []), some ((.istore_n 2, 1), 2, 0, 0, []), some ((.iload_n 2, 1), 2, 0, 0, []), some ((.bipush 9, 2), 0, 0, 9, []), none, some ((.if_icmp .ge 22, 3), 81, 0, 0, []), none, none, some ((.aload_n 0, 1), 0, 0, 0, []), some ((.getfield 24, 3), 1, 3, 0, [])],
  [none, none, some ((.iload_n 2, 1), 2, 0, 0, []), some ((.new 22, 3), 3, 0, 0, []), none, none, some ((.dup, 1), 0, 0, 0, []), some ((.invokespecial 28, 3), 3, 1, 0, []), none, none, some ((.aastore, 1), 0, 0, 0, []), some ((.iinc 2 1, 3), 2, 0, 1, []), none, none, some ((.goto (-22), 3), 56, 0, 0, []), none],
  [none, some ((.aload_n 0, 1), 0, 0, 0, []), some ((.bipush 20, 2), 0, 0, 20, []), none, some ((.putfield 29, 3), 1, 5, 0, []), none, none, some ((.aload_n 0, 1), 0, 0, 0, []), some ((.iconst 1, 1), 0, 0, 1, []), some ((.putfield 33, 3), 1, 11, 0, []), none, none, some ((.return_, 1), 0, 0, 0, [])]]
def T_X2_init : Tab := [
  [some ((.aload_n 0, 1), 0, 0, 0, []), some ((.invokespecial 3, 3), 99, 1, 0, []), none, none, some ((.aload_n 0, 1), 0, 0, 0, []), some ((.bipush 15, 2), 0, 0, 15, []), none, some ((.anewarray 9, 3), 5, 0, 0, []), none, none, some ((.putfield 11, 3), 2, 0, 0, []), none, none, some ((.iconst 0, 1), 0, 0, 0, []), some ((.istore_n 1, 1), 1, 0, 0, []), some ((.iload_n 1, 1), 1, 0, 0, [])],
  [some ((.bipush 14, 2), 0, 0, 14, []), none, some ((.if_icmp .gt 22, 3), 40, 0, 0, []), none, none, some ((.aload_n 0, 1), 0, 0, 0, []), some ((.getfield 11, 3), 2, 0, 0, []), none, none, some ((.iload_n 1, 1), 1, 0, 0, []), some ((.new 9, 3), 7, 0, 0, []), none, none, some ((.dup, 1), 0, 0, 0, []), some ((.invokespecial 17, 3), 7, 1, 0, []), none],
  [none, some ((.aastore, 1), 0, 0, 0, []), some ((.iinc 1 1, 3), 1, 0, 1, []), none, none, some ((.goto (-22), 3), 15, 0, 0, []), none, none, some ((.aload_n 0, 1), 0, 0, 0, []), some ((.bipush 96, 2), 0, 0, 96, []), none, some ((.newarray .int, 2), 0, 0, 0, []), none, some ((.putfield 18, 3), 2, 1, 0, []), none, none],
  [some ((.return_, 1), 0, 0, 0, [])]]
def T_X3_init : Tab := [
  [some ((.aload_n 0, 1), 0, 0, 0, []), some ((.invokespecial 1, 3), 99, 1, 0, []), none, none, some ((.return_, 1), 0, 0, 0, [])]]
def T_X4_init : Tab := [
  [some ((.aload_n 0, 1), 0, 0, 0, []), some ((.invokespecial 3, 3), 99, 1, 0, []), none, none, some ((.aload_n 0, 1), 0, 0, 0, []), some ((.bipush 96, 2), 0, 0, 96, []), none, some ((.newarray .int, 2), 0, 0, 0, []), none, some ((.putfield 9, 3), 4, 0, 0, []), none, none, some ((.aload_n 0, 1), 0, 0, 0, []), some ((.new 15, 3), 7, 0, 0, []), none, none],
  [some ((.dup, 1), 0, 0, 0, []), some ((.invokespecial 17, 3), 7, 1, 0, []), none, none, some ((.putfield 18, 3), 4, 6, 0, []), none, none, some ((.return_, 1), 0, 0, 0, [])]]
def T_X5_init : Tab := [
  [some ((.aload_n 0, 1), 0, 0, 0, []), some ((.invokespecial 3, 3), 99, 1, 0, []), none, none, some ((.aload_n 0, 1), 0, 0, 0, []), some ((.iconst (-1), 1), 0, 0, (-1), []), some ((.putfield 11, 3), 5, 0, 0, []), none, none, some ((.aload_n 0, 1), 0, 0, 0, []), some ((.bipush 24, 2), 0, 0, 24, []), none, some ((.newarray .int, 2), 0, 0, 0, []), none, some ((.putfield 15, 3), 5, 2, 0, []), none],
  [none, some ((.return_, 1), 0, 0, 0, [])]]
def T_X6_init : Tab := [
  [some ((.aload_n 0, 1), 0, 0, 0, []), some ((.invokespecial 1, 3), 99, 1, 0, []), none, none, some ((.aload_n 0, 1), 0, 0, 0, []), some ((.iconst 0, 1), 0, 0, 0, []), some ((.putfield 9, 3), 6, 0, 0, []), none, none, some ((.aload_n 0, 1), 0, 0, 0, []), some ((.new 13, 3), 0, 0, 0, []), none, none, some ((.dup, 1), 0, 0, 0, []), some ((.invokespecial 15, 3), 0, 1, 0, []), none],
  [none, some ((.putfield 16, 3), 6, 1, 0, []), none, none, some ((.aload_n 0, 1), 0, 0, 0, []), some ((.new 20, 3), 5, 0, 0, []), none, none, some ((.dup, 1), 0, 0, 0, []), some ((.invokespecial 22, 3), 5, 1, 0, []), none, none, some ((.putfield 23, 3), 6, 2, 0, []), none, none, some ((.return_, 1), 0, 0, 0, [])]]
def T_X7_init : Tab := [
  [some ((.aload_n 0, 1), 0, 0, 0, []), some ((.invokespecial 3, 3), 99, 1, 0, []), none, none, some ((.aload_n 0, 1), 0, 0, 0, []), some ((.bipush 96, 2), 0, 0, 96, []), none, some ((.newarray .int, 2), 0, 0, 0, []), none, some ((.putfield 9, 3), 7, 1, 0, []), none, none, some ((.return_, 1), 0, 0, 0, [])]]
def T_X8_init : Tab := [
  [some ((.aload_n 0, 1), 0, 0, 0, []), some ((.invokespecial 3, 3), 99, 1, 0, []), none, none, some ((.aload_n 0, 1), 0, 0, 0, []), some ((.aload_n 1, 1), 1, 0, 0, []), some ((.putfield 9, 3), 8, 0, 0, []), none, none, some ((.aload_n 0, 1), 0, 0, 0, []), some ((.bipush 8, 2), 0, 0, 8, []), none, some ((.newarray .int, 2), 0, 0, 0, []), none, some ((.putfield 15, 3), 8, 1, 0, []), none],
  [none, some ((.return_, 1), 0, 0, 0, [])]]
def T_X9_init : Tab := [
  [some ((.aload_n 0, 1), 0, 0, 0, []), some ((.invokespecial 1, 3), 99, 1, 0, []), none, none, some ((.aload_n 0, 1), 0, 0, 0, []), some ((.new 7, 3), 2, 0, 0, []), none, none, some ((.dup, 1), 0, 0, 0, []), some ((.invokespecial 9, 3), 2, 1, 0, []), none, none, some ((.putfield 10, 3), 9, 0, 0, []), none, none, some ((.aload_n 0, 1), 0, 0, 0, [])],
  [some ((.new 16, 3), 4, 0, 0, []), none, none, some ((.dup, 1), 0, 0, 0, []), some ((.invokespecial 18, 3), 4, 1, 0, []), none, none, some ((.putfield 19, 3), 9, 1, 0, []), none, none, some ((.aload_n 0, 1), 0, 0, 0, []), some ((.new 23, 3), 1, 0, 0, []), none, none, some ((.dup, 1), 0, 0, 0, []), some ((.aload_n 0, 1), 0, 0, 0, [])],
  [some ((.getfield 10, 3), 9, 0, 0, []), none, none, some ((.invokespecial 25, 3), 1, 2, 0, []), none, none, some ((.putfield 28, 3), 9, 2, 0, []), none, none, some ((.aload_n 0, 1), 0, 0, 0, []), some ((.new 23, 3), 1, 0, 0, []), none, none, some ((.dup, 1), 0, 0, 0, []), some ((.aload_n 0, 1), 0, 0, 0, []), some ((.getfield 10, 3), 9, 0, 0, [])],
  [none, none, some ((.invokespecial 25, 3), 1, 2, 0, []), none, none, some ((.putfield 32, 3), 9, 3, 0, []), none, none, some ((.aload_n 0, 1), 0, 0, 0, []), some ((.new 23, 3), 1, 0, 0, []), none, none, some ((.dup, 1), 0, 0, 0, []), some ((.aload_n 0, 1), 0, 0, 0, []), some ((.getfield 10, 3), 9, 0, 0, []), none],
  [none, some ((.invokespecial 25, 3), 1, 2, 0, []), none, none, some ((.putfield 35, 3), 9, 4, 0, []), none, none, some ((.aload_n 0, 1), 0, 0, 0, []), some ((.iconst 0, 1), 0, 0, 0, []), some ((.putfield 38, 3), 9, 5, 0, []), none, none, some ((.aload_n 0, 1), 0, 0, 0, []), some ((.new 42, 3), 8, 0, 0, []), none, none],
  [some ((.dup, 1), 0, 0, 0, []), some ((.aload_n 0, 1), 0, 0, 0, []), some ((.getfield 28, 3), 9, 2, 0, []), none, none, some ((.invokespecial 44, 3), 8, 2, 0, []), none, none, some ((.putfield 47, 3), 9, 6, 0, []), none, none, some ((.aload_n 0, 1), 0, 0, 0, []), some ((.iconst 4, 1), 0, 0, 4, []), some ((.anewarray 51, 3), 6, 0, 0, []), none, none],
  [some ((.putfield 53, 3), 9, 7, 0, []), none, none, some ((.iconst 0, 1), 0, 0, 0, []), some ((.istore_n 1, 1), 1, 0, 0, []), some ((.iload_n 1, 1), 1, 0, 0, []), some ((.iconst 4, 1), 0, 0, 4, []), some ((.if_icmp .ge 22, 3), 125, 0, 0, []), none, none, some ((.aload_n 0, 1), 0, 0, 0, []), some ((.getfield 53, 3), 9, 7, 0, []), none, none, some ((.iload_n 1, 1), 1, 0, 0, []), some ((.new 51, 3), 5, 0, 0, [])],
  [none, none, some ((.dup, 1), 0, 0, 0, []), some ((.invokespecial 57, 3), 5, 1, 0, []), none, none, some ((.aastore, 1), 0, 0, 0, []), some ((.iinc 1 1, 3), 1, 0, 1, []), none, none, some ((.goto (-21), 3), 101, 0, 0, []), none, none, some ((.aload_n 0, 1), 0, 0, 0, []), some ((.iconst 5, 1), 0, 0, 5, []), some ((.anewarray 58, 3), 7, 0, 0, [])],
  [none, none, some ((.putfield 60, 3), 9, 8, 0, []), none, none, some ((.iconst 0, 1), 0, 0, 0, []), some ((.istore_n 1, 1), 1, 0, 0, []), some ((.iload_n 1, 1), 1, 0, 0, []), some ((.iconst 5, 1), 0, 0, 5, []), some ((.if_icmp .ge 22, 3), 159, 0, 0, []), none, none, some ((.aload_n 0, 1), 0, 0, 0, []), some ((.getfield 60, 3), 9, 8, 0, []), none, none],
  [some ((.iload_n 1, 1), 1, 0, 0, []), some ((.new 58, 3), 6, 0, 0, []), none, none, some ((.dup, 1), 0, 0, 0, []), some ((.invokespecial 64, 3), 6, 1, 0, []), none, none, some ((.aastore, 1), 0, 0, 0, []), some ((.iinc 1 1, 3), 1, 0, 1, []), none, none, some ((.goto (-21), 3), 135, 0, 0, []), none, none, some ((.aload_n 0, 1), 0, 0, 0, [])],
  [some ((.bipush 60, 2), 0, 0, 60, []), none, some ((.newarray .int, 2), 0, 0, 0, []), none, some ((.putfield 65, 3), 9, 9, 0, []), none, none, some ((.aload_n 0, 1), 0, 0, 0, []), some ((.iconst 0, 1), 0, 0, 0, []), some ((.putfield 69, 3), 9, 10, 0, []), none, none, some ((.return_, 1), 0, 0, 0, [])]]
def T_X10_init : Tab := [
  [some ((.aload_n 0, 1), 0, 0, 0, []), some ((.invokespecial 1, 3), 99, 1, 0, []), none, none, some ((.aload_n 0, 1), 0, 0, 0, []), some ((.sipush 1458, 3), 0, 0, 1458, []), none, none, some ((.newarray .int, 2), 0, 0, 0, []), none, some ((.putfield 9, 3), 10, 0, 0, []), none, none, some ((.aload_n 0, 1), 0, 0, 0, []), some ((.sipush 1458, 3), 0, 0, 1458, []), none],
  [none, some ((.newarray .int, 2), 0, 0, 0, []), none, some ((.putfield 13, 3), 10, 1, 0, []), none, none, some ((.aload_n 0, 1), 0, 0, 0, []), some ((.sipush 1458, 3), 0, 0, 1458, []), none, none, some ((.newarray .int, 2), 0, 0, 0, []), none, some ((.putfield 16, 3), 10, 2, 0, []), none, none, some ((.aload_n 0, 1), 0, 0, 0, [])],
  [some ((.bipush 10, 2), 0, 0, 10, []), none, some ((.newarray .int, 2), 0, 0, 0, []), none, some ((.putfield 19, 3), 10, 4, 0, []), none, none, some ((.aload_n 0, 1), 0, 0, 0, []), some ((.bipush 8, 2), 0, 0, 8, []), none, some ((.newarray .int, 2), 0, 0, 0, []), none, some ((.putfield 22, 3), 10, 5, 0, []), none, none, some ((.aload_n 0, 1), 0, 0, 0, [])],
  [some ((.bipush 8, 2), 0, 0, 8, []), none, some ((.newarray .int, 2), 0, 0, 0, []), none, some ((.putfield 25, 3), 10, 6, 0, []), none, none, some ((.aload_n 0, 1), 0, 0, 0, []), some ((.bipush 86, 2), 0, 0, 86, []), none, some ((.newarray .int, 2), 0, 0, 0, []), none, some ((.putfield 28, 3), 10, 7, 0, []), none, none, some ((.aload_n 0, 1), 0, 0, 0, [])],
  [some ((.bipush 9, 2), 0, 0, 9, []), none, some ((.newarray .int, 2), 0, 0, 0, []), none, some ((.putfield 31, 3), 10, 8, 0, []), none, none, some ((.aload_n 0, 1), 0, 0, 0, []), some ((.bipush 96, 2), 0, 0, 96, []), none, some ((.newarray .int, 2), 0, 0, 0, []), none, some ((.putfield 34, 3), 10, 9, 0, []), none, none, some ((.aload_n 0, 1), 0, 0, 0, [])],
  [some ((.bipush 12, 2), 0, 0, 12, []), none, some ((.newarray .char, 2), 2, 0, 0, []), none, some ((.dup, 1), 0, 0, 0, []), some ((.iconst 0, 1), 0, 0, 0, []), some ((.bipush 104, 2), 0, 0, 104, []), none, some ((.castore, 1), 0, 0, 0, []), some ((.dup, 1), 0, 0, 0, []), some ((.iconst 1, 1), 0, 0, 1, []), some ((.bipush 111, 2), 0, 0, 111, []), none, some ((.castore, 1), 0, 0, 0, []), some ((.dup, 1), 0, 0, 0, []), some ((.iconst 2, 1), 0, 0, 2, [])],
  [some ((.bipush 117, 2), 0, 0, 117, []), none, some ((.castore, 1), 0, 0, 0, []), some ((.dup, 1), 0, 0, 0, []), some ((.iconst 3, 1), 0, 0, 3, []), some ((.bipush 114, 2), 0, 0, 114, []), none, some ((.castore, 1), 0, 0, 0, []), some ((.dup, 1), 0, 0, 0, []), some ((.iconst 4, 1), 0, 0, 4, []), some ((.bipush 115, 2), 0, 0, 115, []), none, some ((.castore, 1), 0, 0, 0, []), some ((.dup, 1), 0, 0, 0, []), some ((.iconst 5, 1), 0, 0, 5, []), some ((.bipush 102, 2), 0, 0, 102, [])],
  [none, some ((.castore, 1), 0, 0, 0, []), some ((.dup, 1), 0, 0, 0, []), some ((.bipush 6, 2), 0, 0, 6, []), none, some ((.bipush 101, 2), 0, 0, 101, []), none, some ((.castore, 1), 0, 0, 0, []), some ((.dup, 1), 0, 0, 0, []), some ((.bipush 7, 2), 0, 0, 7, []), none, some ((.bipush 101, 2), 0, 0, 101, []), none, some ((.castore, 1), 0, 0, 0, []), some ((.dup, 1), 0, 0, 0, []), some ((.bipush 8, 2), 0, 0, 8, [])],
  [none, some ((.bipush 102, 2), 0, 0, 102, []), none, some ((.castore, 1), 0, 0, 0, []), some ((.dup, 1), 0, 0, 0, []), some ((.bipush 9, 2), 0, 0, 9, []), none, some ((.bipush 105, 2), 0, 0, 105, []), none, some ((.castore, 1), 0, 0, 0, []), some ((.dup, 1), 0, 0, 0, []), some ((.bipush 10, 2), 0, 0, 10, []), none, some ((.bipush 110, 2), 0, 0, 110, []), none, some ((.castore, 1), 0, 0, 0, [])],
  [some ((.dup, 1), 0, 0, 0, []), some ((.bipush 11, 2), 0, 0, 11, []), none, some ((.bipush 101, 2), 0, 0, 101, []), none, some ((.castore, 1), 0, 0, 0, []), some ((.putfield 37, 3), 10, 17, 0, []), none, none, some ((.aload_n 0, 1), 0, 0, 0, []), some ((.iconst 4, 1), 0, 0, 4, []), some ((.newarray .int, 2), 0, 0, 0, []), none, some ((.dup, 1), 0, 0, 0, []), some ((.iconst 0, 1), 0, 0, 0, []), some ((.iconst 0, 1), 0, 0, 0, [])],
  [some ((.iastore, 1), 0, 0, 0, []), some ((.dup, 1), 0, 0, 0, []), some ((.iconst 1, 1), 0, 0, 1, []), some ((.iconst 5, 1), 0, 0, 5, []), some ((.iastore, 1), 0, 0, 0, []), some ((.dup, 1), 0, 0, 0, []), some ((.iconst 2, 1), 0, 0, 2, []), some ((.bipush 8, 2), 0, 0, 8, []), none, some ((.iastore, 1), 0, 0, 0, []), some ((.dup, 1), 0, 0, 0, []), some ((.iconst 3, 1), 0, 0, 3, []), some ((.bipush 12, 2), 0, 0, 12, []), none, some ((.iastore, 1), 0, 0, 0, []), some ((.putfield 41, 3), 10, 18, 0, [])],
  [none, none, some ((.aload_n 0, 1), 0, 0, 0, []), some ((.bipush 96, 2), 0, 0, 96, []), none, some ((.newarray .int, 2), 0, 0, 0, []), none, some ((.putfield 44, 3), 10, 19, 0, []), none, none, some ((.aload_n 0, 1), 0, 0, 0, []), some ((.bipush 96, 2), 0, 0, 96, []), none, some ((.newarray .int, 2), 0, 0, 0, []), none, some ((.putfield 47, 3), 10, 22, 0, [])],
  [none, none, some ((.aload_n 0, 1), 0, 0, 0, []), some ((.bipush 10, 2), 0, 0, 10, []), none, some ((.newarray .boolean, 2), 1, 0, 0, []), none, some ((.putfield 50, 3), 10, 24, 0, []), none, none, some ((.aload_n 0, 1), 0, 0, 0, []), some ((.bipush 96, 2), 0, 0, 96, []), none, some ((.newarray .int, 2), 0, 0, 0, []), none, some ((.putfield 54, 3), 10, 25, 0, [])],
  [none, none, some ((.aload_n 0, 1), 0, 0, 0, []), some ((.iconst 4, 1), 0, 0, 4, []), some ((.newarray .int, 2), 0, 0, 0, []), none, some ((.putfield 57, 3), 10, 26, 0, []), none, none, some ((.aload_n 0, 1), 0, 0, 0, []), some ((.iconst 4, 1), 0, 0, 4, []), some ((.newarray .int, 2), 0, 0, 0, []), none, some ((.dup, 1), 0, 0, 0, []), some ((.iconst 0, 1), 0, 0, 0, []), some ((.iconst (-1), 1), 0, 0, (-1), [])],
  [some ((.iastore, 1), 0, 0, 0, []), some ((.dup, 1), 0, 0, 0, []), some ((.iconst 1, 1), 0, 0, 1, []), some ((.iconst (-1), 1), 0, 0, (-1), []), some ((.iastore, 1), 0, 0, 0, []), some ((.dup, 1), 0, 0, 0, []), some ((.iconst 2, 1), 0, 0, 2, []), some ((.iconst (-1), 1), 0, 0, (-1), []), some ((.iastore, 1), 0, 0, 0, []), some ((.dup, 1), 0, 0, 0, []), some ((.iconst 3, 1), 0, 0, 3, []), some ((.iconst (-1), 1), 0, 0, (-1), []), some ((.iastore, 1), 0, 0, 0, []), some ((.putfield 60, 3), 10, 27, 0, []), none, none],
  [some ((.aload_n 0, 1), 0, 0, 0, []), some ((.iconst 4, 1), 0, 0, 4, []), some ((.newarray .int, 2), 0, 0, 0, []), none, some ((.putfield 63, 3), 10, 28, 0, []), none, none, some ((.aload_n 0, 1), 0, 0, 0, []), some ((.bipush 96, 2), 0, 0, 96, []), none, some ((.newarray .int, 2), 0, 0, 0, []), none, some ((.putfield 66, 3), 10, 29, 0, []), none, none, some ((.aload_n 0, 1), 0, 0, 0, [])],
  [some ((.iconst 5, 1), 0, 0, 5, []), some ((.newarray .int, 2), 0, 0, 0, []), none, some ((.putfield 69, 3), 10, 30, 0, []), none, none, some ((.aload_n 0, 1), 0, 0, 0, []), some ((.iconst 5, 1), 0, 0, 5, []), some ((.newarray .int, 2), 0, 0, 0, []), none, some ((.putfield 72, 3), 10, 31, 0, []), none, none, some ((.aload_n 0, 1), 0, 0, 0, []), some ((.iconst 5, 1), 0, 0, 5, []), some ((.newarray .int, 2), 0, 0, 0, [])],
  [none, some ((.putfield 75, 3), 10, 32, 0, []), none, none, some ((.aload_n 0, 1), 0, 0, 0, []), some ((.bipush 120, 2), 0, 0, 120, []), none, some ((.newarray .int, 2), 0, 0, 0, []), none, some ((.putfield 78, 3), 10, 33, 0, []), none, none, some ((.aload_n 0, 1), 0, 0, 0, []), some ((.bipush 24, 2), 0, 0, 24, []), none, some ((.newarray .int, 2), 0, 0, 0, [])],
  [none, some ((.putfield 81, 3), 10, 34, 0, []), none, none, some ((.aload_n 0, 1), 0, 0, 0, []), some ((.bipush 60, 2), 0, 0, 60, []), none, some ((.newarray .int, 2), 0, 0, 0, []), none, some ((.putfield 84, 3), 10, 35, 0, []), none, none, some ((.aload_n 0, 1), 0, 0, 0, []), some ((.getfield 9, 3), 10, 0, 0, []), none, none],
  [some ((.iconst 0, 1), 0, 0, 0, []), some ((.iconst 1, 1), 0, 0, 1, []), some ((.iastore, 1), 0, 0, 0, []), some ((.aload_n 0, 1), 0, 0, 0, []), some ((.getfield 9, 3), 10, 0, 0, []), none, none, some ((.iconst 3, 1), 0, 0, 3, []), some ((.bipush 20, 2), 0, 0, 20, []), none, some ((.iastore, 1), 0, 0, 0, []), some ((.return_, 1), 0, 0, 0, [])]]
abbrev r_X0_init : MRec := (0, 0, yX0_init, cX0_init, 1, none, T_X0_init)
abbrev r_X1_init : MRec := (1, 0, yX1_init, cX1_init, 3, none, T_X1_init)
abbrev r_X2_init : MRec := (2, 0, yX2_init, cX2_init, 2, none, T_X2_init)
abbrev r_X3_init : MRec := (3, 0, yX3_init, cX3_init, 1, none, T_X3_init)
abbrev r_X4_init : MRec := (4, 0, yX4_init, cX4_init, 1, none, T_X4_init)
abbrev r_X5_init : MRec := (5, 0, yX5_init, cX5_init, 1, none, T_X5_init)
abbrev r_X6_init : MRec := (6, 0, yX6_init, cX6_init, 1, none, T_X6_init)
abbrev r_X7_init : MRec := (7, 0, yX7_init, cX7_init, 1, none, T_X7_init)
abbrev r_X8_init : MRec := (8, 0, yX8_init, cX8_init, 2, none, T_X8_init)
abbrev r_X9_init : MRec := (9, 0, yX9_init, cX9_init, 2, none, T_X9_init)
abbrev r_X10_init : MRec := (10, 0, yX10_init, cX10_init, 1, none, T_X10_init)
def CL2 : List MRec := [r_X0_init, r_X1_init, r_X2_init, r_X3_init, r_X4_init, r_X5_init, r_X6_init, r_X7_init, r_X8_init, r_X9_init, r_X10_init]
def CR (k : Nat) : MRec := CL2.getD k r_X0_init
def bud (k : Nat) : Nat × Nat := match k with
  | 0 => (0, 0)
  | 1 => (21, 300)
  | 2 => (32, 2500)
  | 3 => (0, 0)
  | 4 => (3, 400)
  | 5 => (1, 24)
  | 6 => (3, 60)
  | 7 => (1, 96)
  | 8 => (1, 8)
  | 9 => (136, 20000)
  | 10 => (25, 20000)
  | _ => (0, 0)
def FL2 : List (Nat × Nat × Nat × Nat × Nat) := [(1, 9, 1, 0, 231), (1, 17, 1, 1, 232), (1, 24, 1, 3, 238), (1, 29, 1, 5, 242), (1, 33, 1, 11, 254), (2, 11, 2, 0, 122), (2, 18, 2, 1, 124), (4, 9, 4, 0, 138), (4, 18, 4, 6, 146), (5, 11, 5, 0, 305), (5, 15, 5, 2, 310), (6, 9, 6, 0, 331), (6, 16, 6, 1, 333), (6, 23, 6, 2, 335), (7, 9, 7, 1, 106), (8, 9, 8, 0, 291), (8, 15, 8, 1, 292), (9, 10, 9, 0, 347), (9, 19, 9, 1, 348), (9, 28, 9, 2, 349), (9, 32, 9, 3, 350), (9, 35, 9, 4, 351), (9, 38, 9, 5, 352), (9, 47, 9, 6, 353), (9, 53, 9, 7, 354), (9, 60, 9, 8, 355), (9, 65, 9, 9, 356), (9, 69, 9, 10, 357), (10, 9, 10, 0, 1020), (10, 13, 10, 1, 1021), (10, 16, 10, 2, 1022), (10, 19, 10, 4, 1024), (10, 22, 10, 5, 1025), (10, 25, 10, 6, 1026), (10, 28, 10, 7, 1027), (10, 31, 10, 8, 1028), (10, 34, 10, 9, 1029), (10, 37, 10, 17, 1037), (10, 41, 10, 18, 1038), (10, 44, 10, 19, 1039), (10, 47, 10, 22, 1042), (10, 50, 10, 24, 1044), (10, 54, 10, 25, 1045), (10, 57, 10, 26, 1046), (10, 60, 10, 27, 1047), (10, 63, 10, 28, 1048), (10, 66, 10, 29, 1049), (10, 69, 10, 30, 1050), (10, 72, 10, 31, 1051), (10, 75, 10, 32, 1052), (10, 78, 10, 33, 1053), (10, 81, 10, 34, 1054), (10, 84, 10, 35, 1055)]
theorem fl2_ok : ∀ q ∈ FL2, (lw_tbl[q.2.2.2.2]? = some (mkF q) ∧ goodWord (mkF q) = true) ∧ q.2.2.1 < 11 ∧ q.2.2.2.1 < NF q.2.2.1 := by decide +kernel
def CLN : List (Nat × Nat × Nat × Nat) := [(1, 15, 0, 168), (1, 22, 3, 200), (2, 9, 7, 95), (4, 15, 7, 136), (6, 13, 0, 327), (6, 20, 5, 329), (9, 7, 2, 89), (9, 16, 4, 130), (9, 23, 1, 162), (9, 42, 8, 285), (9, 51, 5, 298), (9, 58, 6, 320), (11, 7, 9, 81), (11, 10, 10, 1014)]
theorem cln_ok : ∀ q ∈ CLN, (lw_tbl[q.2.2.2]? = some (Cond.classLink (RO q.1) q.2.1 (RO q.2.2.1)) ∧ goodWord (Cond.classLink (RO q.1) q.2.1 (RO q.2.2.1)) = true) ∧ q.2.2.1 < 11 := by decide +kernel
def mkC (q : Nat × Nat × Nat × Nat × Nat) : Cond := match q.2.2.2.1 with
  | 1 => .methodLink (RO q.1) q.2.1 (CR q.2.2.1).2.2.1
  | 2 => .methodLinkNest (RO q.1) q.2.1 (CR q.2.2.1).2.2.1 "BedsArePlaces"
  | _ => .methodLink (RO q.1) q.2.1 Lib.objectInit
def CTL : List (Nat × Nat × Nat × Nat × Nat) := [(2, 17, 7, 1, 98), (4, 17, 7, 1, 137), (6, 22, 5, 1, 330), (9, 9, 2, 1, 91), (9, 18, 4, 1, 132), (9, 25, 1, 1, 164), (9, 44, 8, 1, 287), (9, 57, 5, 1, 301), (9, 64, 6, 1, 323), (11, 9, 9, 1, 83), (11, 12, 10, 1, 1016)]
theorem ctl_ok : ∀ q ∈ CTL, (lw_tbl[q.2.2.2.2]? = some (mkC q) ∧ goodWord (mkC q) = true) := by decide +kernel
def CTO : List (Nat × Nat × Nat × Nat × Nat) := [(0, 3, 99, 0, 174), (1, 3, 99, 0, 167), (2, 3, 99, 0, 94), (3, 1, 99, 0, 206), (4, 3, 99, 0, 135), (5, 3, 99, 0, 304), (6, 1, 99, 0, 326), (7, 3, 99, 0, 101), (8, 3, 99, 0, 290), (9, 1, 99, 0, 86), (10, 1, 99, 0, 1019)]
theorem cto_ok : ∀ q ∈ CTO, (lw_tbl[q.2.2.2.2]? = some (mkC q) ∧ goodWord (mkC q) = true) := by decide +kernel
def CTN : List (Nat × Nat × Nat × Nat × Nat) := [(1, 21, 0, 2, 171), (1, 28, 3, 2, 203), (6, 15, 0, 2, 328)]
theorem ctn_ok : ∀ q ∈ CTN, lw_tbl[q.2.2.2.2]? = some (mkC q) := by decide +kernel
set_option maxRecDepth 100000 in
theorem cc_0 : Cond.code (CR 0).2.2.1 (CR 0).2.2.2.1 (CR 0).2.2.2.2.1 none ∈ lw_tbl ∧ goodWord (Cond.code (CR 0).2.2.1 (CR 0).2.2.2.1 (CR 0).2.2.2.2.1 none) = true := ⟨in_1 (List.mem_of_getElem? (i := 112) rfl), rfl⟩
set_option maxRecDepth 100000 in
theorem cc_1 : Cond.code (CR 1).2.2.1 (CR 1).2.2.2.1 (CR 1).2.2.2.2.1 none ∈ lw_tbl ∧ goodWord (Cond.code (CR 1).2.2.1 (CR 1).2.2.2.1 (CR 1).2.2.2.2.1 none) = true := ⟨in_1 (List.mem_of_getElem? (i := 105) rfl), rfl⟩
set_option maxRecDepth 100000 in
theorem cc_2 : Cond.code (CR 2).2.2.1 (CR 2).2.2.2.1 (CR 2).2.2.2.2.1 none ∈ lw_tbl ∧ goodWord (Cond.code (CR 2).2.2.1 (CR 2).2.2.2.1 (CR 2).2.2.2.2.1 none) = true := ⟨in_1 (List.mem_of_getElem? (i := 32) rfl), rfl⟩
set_option maxRecDepth 100000 in
theorem cc_3 : Cond.code (CR 3).2.2.1 (CR 3).2.2.2.1 (CR 3).2.2.2.2.1 none ∈ lw_tbl ∧ goodWord (Cond.code (CR 3).2.2.1 (CR 3).2.2.2.1 (CR 3).2.2.2.2.1 none) = true := ⟨in_1 (List.mem_of_getElem? (i := 144) rfl), rfl⟩
set_option maxRecDepth 100000 in
theorem cc_4 : Cond.code (CR 4).2.2.1 (CR 4).2.2.2.1 (CR 4).2.2.2.2.1 none ∈ lw_tbl ∧ goodWord (Cond.code (CR 4).2.2.1 (CR 4).2.2.2.1 (CR 4).2.2.2.2.1 none) = true := ⟨in_1 (List.mem_of_getElem? (i := 73) rfl), rfl⟩
set_option maxRecDepth 100000 in
theorem cc_5 : Cond.code (CR 5).2.2.1 (CR 5).2.2.2.1 (CR 5).2.2.2.2.1 none ∈ lw_tbl ∧ goodWord (Cond.code (CR 5).2.2.1 (CR 5).2.2.2.1 (CR 5).2.2.2.2.1 none) = true := ⟨in_2 (List.mem_of_getElem? (i := 2) rfl), rfl⟩
set_option maxRecDepth 100000 in
theorem cc_6 : Cond.code (CR 6).2.2.1 (CR 6).2.2.2.1 (CR 6).2.2.2.2.1 none ∈ lw_tbl ∧ goodWord (Cond.code (CR 6).2.2.1 (CR 6).2.2.2.1 (CR 6).2.2.2.2.1 none) = true := ⟨in_2 (List.mem_of_getElem? (i := 24) rfl), rfl⟩
set_option maxRecDepth 100000 in
theorem cc_7 : Cond.code (CR 7).2.2.1 (CR 7).2.2.2.1 (CR 7).2.2.2.2.1 none ∈ lw_tbl ∧ goodWord (Cond.code (CR 7).2.2.1 (CR 7).2.2.2.1 (CR 7).2.2.2.2.1 none) = true := ⟨in_1 (List.mem_of_getElem? (i := 39) rfl), rfl⟩
set_option maxRecDepth 100000 in
theorem cc_8 : Cond.code (CR 8).2.2.1 (CR 8).2.2.2.1 (CR 8).2.2.2.2.1 none ∈ lw_tbl ∧ goodWord (Cond.code (CR 8).2.2.1 (CR 8).2.2.2.1 (CR 8).2.2.2.2.1 none) = true := ⟨in_1 (List.mem_of_getElem? (i := 228) rfl), rfl⟩
set_option maxRecDepth 100000 in
theorem cc_9 : Cond.code (CR 9).2.2.1 (CR 9).2.2.2.1 (CR 9).2.2.2.2.1 none ∈ lw_tbl ∧ goodWord (Cond.code (CR 9).2.2.1 (CR 9).2.2.2.1 (CR 9).2.2.2.2.1 none) = true := ⟨in_1 (List.mem_of_getElem? (i := 24) rfl), rfl⟩
set_option maxRecDepth 100000 in
theorem cc_10 : Cond.code (CR 10).2.2.1 (CR 10).2.2.2.1 (CR 10).2.2.2.2.1 none ∈ lw_tbl ∧ goodWord (Cond.code (CR 10).2.2.1 (CR 10).2.2.2.1 (CR 10).2.2.2.2.1 none) = true := ⟨in_4 (List.mem_of_getElem? (i := 237) rfl), rfl⟩
theorem cc_ok {k : Nat} (h : k < 11) : Cond.code (CR k).2.2.1 (CR k).2.2.2.1 (CR k).2.2.2.2.1 none ∈ ALLW := by
  rcases (show k = 0 ∨ k = 1 ∨ k = 2 ∨ k = 3 ∨ k = 4 ∨ k = 5 ∨ k = 6 ∨ k = 7 ∨ k = 8 ∨ k = 9 ∨ k = 10 by omega) with rfl | rfl | rfl | rfl | rfl | rfl | rfl | rfl | rfl | rfl | rfl
  · exact List.mem_filter.mpr cc_0
  · exact List.mem_filter.mpr cc_1
  · exact List.mem_filter.mpr cc_2
  · exact List.mem_filter.mpr cc_3
  · exact List.mem_filter.mpr cc_4
  · exact List.mem_filter.mpr cc_5
  · exact List.mem_filter.mpr cc_6
  · exact List.mem_filter.mpr cc_7
  · exact List.mem_filter.mpr cc_8
  · exact List.mem_filter.mpr cc_9
  · exact List.mem_filter.mpr cc_10
def CP : List (Nat × Nat × Nat × Nat) := [(172, 67, 170, 0), (165, 66, 163, 1), (92, 63, 90, 0), (204, 68, 202, 0), (133, 65, 131, 0), (302, 70, 300, 0), (324, 71, 322, 0), (99, 64, 97, 0), (288, 69, 286, 1), (84, 62, 82, 0), (1017, 72, 1015, 0)]
def MC (k : Nat) : Bool := match CP.getD k (0, 0, 0, 0) with
  | (b, c, d, n) => decide (lw_tbl[b]? = some (.instanceMethod (CR k).2.2.1)) && goodWord (.instanceMethod (CR k).2.2.1) && decide (lw_tbl[c]? = some (.initialized (RO k))) && goodWord (.initialized (RO k)) && decide (lw_tbl[d]? = some (.instantiable (RO k) (NF k))) && goodWord (.instantiable (RO k) (NF k)) &&
    decide ((CR k).2.2.1.cls = RO k) && plainName (CR k).2.2.1.cls && decide ((CR k).2.2.1.cls ≠ "java/lang/invoke/MethodHandle") && decide ((CR k).2.2.1.cls ≠ "java/lang/invoke/VarHandle") && decide ((parseMethodDescriptor (CR k).2.2.1.desc).map (fun d => d.parameters.length) = some n) && decide ((CR k).2.2.1.name = "<init>") && decide ((CR k).1 = k) && decide (n + 1 ≤ (CR k).2.2.2.2.1) && decide ((CR k).2.2.2.2.1 ≤ 21)
theorem mc_ok : ∀ k, k < 11 → MC k = true := by decide +kernel
def npC (k : Nat) : Nat := (CP.getD k (0, 0, 0, 0)).2.2.2
abbrev W2 : Type := Int32 ⊕ Option Nat
abbrev C2 : Type := Nat × List W2
abbrev G2 : Type := Bool × Nat × List (Option W2) × List W2 × List C2 × Nat × Nat
def dfl (k s : Nat) : W2 := match tyF k s with
  | .int => .inl 0
  | .boolean => .inl 0
  | _ => .inr none
def okV (k s : Nat) (v : W2) : Bool := match tyF k s, v with
  | .int, .inl _ => true
  | .boolean, .inl z => decide (z = 0 ∨ z = 1)
  | .object _, .inr (some _) => true
  | .array _, .inr (some _) => true
  | _, _ => false
def elc (t : Nat) : Nat := match t with
  | 3 => 0
  | 4 => 3
  | 5 => 7
  | 6 => 5
  | _ => 6
def st2 (call : Nat → List W2 → List C2 → Option (List C2)) (B : Nat × Nat) (e : Ent) (pc : Nat) (lv : List (Option W2)) (st : List W2) (h : List C2) (cu su : Nat) : Option G2 :=
  match e with | ((ins, _), a, b, x, _) => match ins with
  | .iconst _ => some (false, pc + 1, lv, .inl x :: st, h, cu, su)
  | .bipush _ => some (false, pc + 2, lv, .inl x :: st, h, cu, su)
  | .sipush _ => some (false, pc + 3, lv, .inl x :: st, h, cu, su)
  | .aload_n _ => (match lv[a]? with
    | some (some (.inr (some r))) => some (false, pc + 1, lv, .inr (some r) :: st, h, cu, su)
    | _ => none)
  | .iload_n _ => (match lv[a]? with
    | some (some (.inl v)) => some (false, pc + 1, lv, .inl v :: st, h, cu, su)
    | _ => none)
  | .istore_n _ => (match st with
    | .inl v :: r => if a < lv.length then some (false, pc + 1, lv.set a (some (.inl v)), r, h, cu, su) else none
    | _ => none)
  | .iinc _ _ => (match lv[a]? with
    | some (some (.inl v)) => some (false, pc + 3, lv.set a (some (.inl (v + x))), st, h, cu, su)
    | _ => none)
  | .dup => (match st with
    | v :: r => some (false, pc + 1, lv, v :: v :: r, h, cu, su)
    | _ => none)
  | .goto _ => some (false, a, lv, st, h, cu, su)
  | .if_icmp .ge _ => (match st with
    | .inl y :: .inl v :: r => if y ≤ v then some (false, a, lv, r, h, cu, su) else some (false, pc + 3, lv, r, h, cu, su)
    | _ => none)
  | .if_icmp .gt _ => (match st with
    | .inl y :: .inl v :: r => if y < v then some (false, a, lv, r, h, cu, su) else some (false, pc + 3, lv, r, h, cu, su)
    | _ => none)
  | .new _ => if cu + 1 ≤ B.1 ∧ su + NF a ≤ B.2 then some (false, pc + 3, lv, .inr (some h.length) :: st, h ++ [(a, (List.range (NF a)).map (dfl a))], cu + 1, su + NF a) else none
  | .newarray _ => (match st with
    | .inl v :: r => if 0 ≤ v ∧ v.toNatClampNeg ≤ 100000 ∧ cu + 1 ≤ B.1 ∧ su + v.toNatClampNeg ≤ B.2 then some (false, pc + 2, lv, .inr (some h.length) :: r, h ++ [(100 + a, List.replicate v.toNatClampNeg (.inl 0))], cu + 1, su + v.toNatClampNeg) else none
    | _ => none)
  | .anewarray _ => (match st with
    | .inl v :: r => if 0 ≤ v ∧ v.toNatClampNeg ≤ 100000 ∧ cu + 1 ≤ B.1 ∧ su + v.toNatClampNeg ≤ B.2 then some (false, pc + 3, lv, .inr (some h.length) :: r, h ++ [(100 + a, List.replicate v.toNatClampNeg (.inr none))], cu + 1, su + v.toNatClampNeg) else none
    | _ => none)
  | .putfield _ => (match st with
    | v :: .inr (some q) :: r => (match h[q]? with
      | some (t, l) => if t = a ∧ b < l.length ∧ okV a b v = true then some (false, pc + 3, lv, r, h.set q (t, l.set b v), cu, su) else none
      | none => none)
    | _ => none)
  | .getfield _ => (match st with
    | .inr (some q) :: r => (match h[q]? with
      | some (t, l) => (match l[b]? with
        | some v => if t = a then some (false, pc + 3, lv, v :: r, h, cu, su) else none
        | none => none)
      | none => none)
    | _ => none)
  | .iastore => (match st with
    | .inl z :: .inl i :: .inr (some q) :: r => (match h[q]? with
      | some (t, l) => if t = 100 ∧ 0 ≤ i ∧ i.toNatClampNeg < l.length then some (false, pc + 1, lv, r, h.set q (t, l.set i.toNatClampNeg (.inl z)), cu, su) else none
      | none => none)
    | _ => none)
  | .castore => (match st with
    | .inl z :: .inl i :: .inr (some q) :: r => (match h[q]? with
      | some (t, l) => if t = 102 ∧ 0 ≤ i ∧ i.toNatClampNeg < l.length ∧ 0 ≤ z ∧ z ≤ 65535 then some (false, pc + 1, lv, r, h.set q (t, l.set i.toNatClampNeg (.inl z)), cu, su) else none
      | none => none)
    | _ => none)
  | .aastore => (match st with
    | .inr (some w) :: .inl i :: .inr (some q) :: r => (match h[q]?, h[w]? with
      | some (t, l), some (tw, _) => if 103 ≤ t ∧ t ≤ 107 ∧ tw = elc (t - 100) ∧ 0 ≤ i ∧ i.toNatClampNeg < l.length then some (false, pc + 1, lv, r, h.set q (t, l.set i.toNatClampNeg (.inr (some w))), cu, su) else none
      | _, _ => none)
    | _ => none)
  | .invokespecial _ => (match a with
    | 99 => (match st with
      | .inr (some _) :: r => if r.length ≤ 8 then some (false, pc + 3, lv, r, h, cu, su) else none
      | _ => none)
    | a => if b ≤ st.length ∧ st.length ≤ 8 ∧ cu + (bud a).1 ≤ B.1 ∧ su + (bud a).2 ≤ B.2 then (match st.drop (b - 1) with
      | .inr (some _) :: _ => (match call a ((st.take b).reverse) h with
        | some h' => if h'.length = h.length + (bud a).1 then some (false, pc + 3, lv, st.drop b, h', cu + (bud a).1, su + (bud a).2) else none
        | none => none)
      | _ => none) else none)
  | .return_ => (match st with
    | [] => some (true, pc, lv, st, h, cu, su)
    | _ => none)
  | _ => none
def ex2 (call : Nat → List W2 → List C2 → Option (List C2)) (T : Tab) (B : Nat × Nat) : Nat → Nat → List (Option W2) → List W2 → List C2 → Nat → Nat → Option (List C2)
  | 0, _, _, _, _, _, _ => none
  | n + 1, pc, lv, st, h, cu, su => match cof T pc with
    | none => none
    | some e => match st2 call B e pc lv st h cu su with
      | none => none
      | some (true, _, _, _, h', _, _) => some h'
      | some (false, pc', lv', st', h', cu', su') => ex2 call T B n pc' lv' st' h' cu' su'
def sem2 : Nat → Nat → List W2 → List C2 → Option (List C2)
  | 0, _, _, _ => none
  | d + 1, k, av, h => ex2 (sem2 d) (CR k).2.2.2.2.2.2 (bud k) 400 0 (av.map some ++ List.replicate ((CR k).2.2.2.2.1 - av.length) none) [] h 0 0
/-- what the law's first rows make -/
def h0 : List C2 := [(9, (List.range 11).map (dfl 9))]
def h1 : List C2 := (sem2 4 9 [.inr (some 0)] h0).getD []
def h2 : List C2 := h1 ++ [(10, (List.range 37).map (dfl 10))]
def h3 : List C2 := (sem2 4 10 [.inr (some h1.length)] h2).getD []
theorem h1_is : (sem2 4 9 [.inr (some 0)] h0).isSome = true := by decide +kernel
theorem h1_len : h1.length = 137 := by decide +kernel
theorem h3_is : (sem2 4 10 [.inr (some h1.length)] h2).isSome = true := by decide +kernel
theorem h3_len : h3.length = 163 := by decide +kernel
theorem some_getD {α : Type} {o : Option (List α)} (h : o.isSome = true) : o = some (o.getD []) := by
  cases o with
  | none => cases h
  | some x => rfl
theorem h1_ok : sem2 4 9 [.inr (some 0)] h0 = some h1 := some_getD h1_is
theorem h3_ok : sem2 4 10 [.inr (some h1.length)] h2 = some h3 := some_getD h3_is
def okE2 (o : Nat) (b : ByteArray) (pc : Nat) (e : Ent) : Bool := match e with
  | ((ins, n), a, bb, x, _) => decide (decode b pc = .ok (ins, n)) && (match ins with
    | .iconst i => n == 1 && decide (Int32.ofInt i = x)
    | .bipush i => n == 2 && decide ((Int8.ofInt i).toInt32 = x)
    | .sipush i => n == 3 && decide ((Int16.ofInt i).toInt32 = x)
    | .iload_n k => n == 1 && k.val == a
    | .aload_n k => n == 1 && k.val == a
    | .istore_n k => n == 1 && k.val == a
    | .iinc k c => n == 3 && k == a && decide (Int32.ofInt c = x)
    | .goto off => n == 3 && decide ((pc : Int) + off = (a : Int))
    | .if_icmp _ off => n == 3 && decide ((pc : Int) + off = (a : Int))
    | .getfield i => n == 3 && FL2.any (fun q => q.1 == o && q.2.1 == i && q.2.2.1 == a && q.2.2.2.1 == bb)
    | .putfield i => n == 3 && FL2.any (fun q => q.1 == o && q.2.1 == i && q.2.2.1 == a && q.2.2.2.1 == bb) && decide ((TF a bb).1 = RO o)
    | .new i => n == 3 && CLN.any (fun q => q.1 == o && q.2.1 == i && q.2.2.1 == a)
    | .anewarray i => n == 3 && decide (3 ≤ a) && decide (a ≤ 7) && CLN.any (fun q => q.1 == o && q.2.1 == i && q.2.2.1 == elc a)
    | .newarray ty => n == 2 && decide (a < 3) && decide (newarray.typeOf ty = (match a with | 0 => FieldType.int | 1 => .boolean | _ => .char))
    | .invokespecial i => n == 3 && ((a == 99 && CTO.any (fun q => q.1 == o && q.2.1 == i)) || (decide (a < 11) && bb == npC a + 1 && (CTL.any (fun q => q.1 == o && q.2.1 == i && q.2.2.1 == a && q.2.2.2.1 == 1) || CTN.any (fun q => q.1 == o && q.2.1 == i && q.2.2.1 == a && q.2.2.2.1 == 2))))
    | _ => n == 1)
def okT2 (o : Nat) (b : ByteArray) : Nat → Tab → Bool
  | _, [] => true
  | i, r :: q => (List.range r.length).all (fun j => match r.getD j none with | some e => okE2 o b (16 * i + j) e | none => true) && okT2 o b (i + 1) q
theorem ok2_0 : ∀ k, k < 9 → okT2 (CR k).1 (CR k).2.2.2.1 0 (CR k).2.2.2.2.2.2 = true := by decide +kernel
theorem ok2_9 : okT2 (CR 9).1 (CR 9).2.2.2.1 0 (CR 9).2.2.2.2.2.2 = true := by decide +kernel
theorem ok2_10 : okT2 (CR 10).1 (CR 10).2.2.2.1 0 (CR 10).2.2.2.2.2.2 = true := by decide +kernel
theorem ok2_ok {k : Nat} (h : k < 11) : okT2 (CR k).1 (CR k).2.2.2.1 0 (CR k).2.2.2.2.2.2 = true := by
  rcases (show k < 9 ∨ k = 9 ∨ k = 10 by omega) with h | rfl | rfl
  · exact ok2_0 k h
  · exact ok2_9
  · exact ok2_10
theorem okT2_at {o : Nat} {b : ByteArray} : ∀ (T : Tab) (i : Nat), okT2 o b i T = true → ∀ (k j : Nat) (e : Ent), ((T.getD k []).getD j none) = some e → okE2 o b (16 * (i + k) + j) e = true := by
  intro T
  induction T with
  | nil => intro i h k j e he; simp at he
  | cons r q ih =>
    intro i h k j e he
    simp only [okT2, Bool.and_eq_true] at h
    cases k with
    | zero =>
      have hj : j < r.length := by
        rcases Nat.lt_or_ge j r.length with z | z
        · exact z
        · simp [List.getD_cons_zero, List.getD_eq_getElem?_getD, List.getElem?_eq_none z] at he
      have h1 := List.all_eq_true.mp h.1 j (List.mem_range.mpr hj)
      rw [List.getD_cons_zero] at he
      rw [he] at h1
      exact h1
    | succ k =>
      have h2 := ih (i + 1) h.2 k j e (by rw [List.getD_cons_succ] at he; exact he)
      rwa [show i + 1 + k = i + (k + 1) by omega] at h2
theorem ok2_at {k : Nat} (hk : k < 11) {pc : Nat} {e : Ent} (he : cof (CR k).2.2.2.2.2.2 pc = some e) : okE2 (CR k).1 (CR k).2.2.2.1 pc e = true := by
  have h1 := okT2_at (CR k).2.2.2.2.2.2 0 (ok2_ok hk) (pc / 16) (pc % 16) e he
  rwa [show 16 * (0 + pc / 16) + pc % 16 = pc by omega] at h1

