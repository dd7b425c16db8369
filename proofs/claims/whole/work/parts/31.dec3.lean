theorem dl_1379 : decode code 1379 = .ok (.i2l, 1) := by decide +kernel
theorem dl_1380 : decode code 1380 = .ok (.lcmp, 1) := by decide +kernel
theorem dl_1381 : decode code 1381 = .ok (.ifCond .eq 5, 3) := by decide +kernel
theorem dl_1384 : decode code 1384 = .ok (.iconst 0, 1) := by decide +kernel
theorem dl_1385 : decode code 1385 = .ok (.ireturn, 1) := by decide +kernel
theorem dl_1386 : decode code 1386 = .ok (.goto 385, 3) := by decide +kernel
theorem dl_1389 : decode code 1389 = .ok (.aload_n 1, 1) := by decide +kernel
theorem dl_1390 : decode code 1390 = .ok (.invokevirtual 168, 3) := by decide +kernel
theorem dl_1393 : decode code 1393 = .ok (.aload_n 2, 1) := by decide +kernel
theorem dl_1394 : decode code 1394 = .ok (.invokevirtual 171, 3) := by decide +kernel
theorem dl_1397 : decode code 1397 = .ok (.if_icmp .eq 374, 3) := by decide +kernel
theorem dl_1400 : decode code 1400 = .ok (.iconst 0, 1) := by decide +kernel
theorem dl_1401 : decode code 1401 = .ok (.ireturn, 1) := by decide +kernel
theorem dl_1402 : decode code 1402 = .ok (.aload_n 1, 1) := by decide +kernel
theorem dl_1403 : decode code 1403 = .ok (.aload_n 3, 1) := by decide +kernel
theorem dl_1404 : decode code 1404 = .ok (.invokestatic 172, 3) := by decide +kernel
theorem dl_1407 : decode code 1407 = .ok (.istore 5, 2) := by decide +kernel
theorem dl_1409 : decode code 1409 = .ok (.aload_n 2, 1) := by decide +kernel
theorem dl_1410 : decode code 1410 = .ok (.invokevirtual 175, 3) := by decide +kernel
theorem dl_1413 : decode code 1413 = .ok (.istore 6, 2) := by decide +kernel
theorem dl_1415 : decode code 1415 = .ok (.aload_n 2, 1) := by decide +kernel
theorem dl_1416 : decode code 1416 = .ok (.invokevirtual 91, 3) := by decide +kernel
theorem dl_1419 : decode code 1419 = .ok (.iload 5, 2) := by decide +kernel
theorem dl_1421 : decode code 1421 = .ok (.if_icmp .eq 5, 3) := by decide +kernel
theorem dl_1424 : decode code 1424 = .ok (.iconst 0, 1) := by decide +kernel
theorem dl_1425 : decode code 1425 = .ok (.ireturn, 1) := by decide +kernel
theorem dl_1426 : decode code 1426 = .ok (.iload 5, 2) := by decide +kernel
theorem dl_1428 : decode code 1428 = .ok (.ifCond .ne 15, 3) := by decide +kernel
theorem dl_1431 : decode code 1431 = .ok (.aload_n 3, 1) := by decide +kernel
theorem dl_1432 : decode code 1432 = .ok (.iconst 0, 1) := by decide +kernel
theorem dl_1433 : decode code 1433 = .ok (.laload, 1) := by decide +kernel
theorem dl_1434 : decode code 1434 = .ok (.iload 6, 2) := by decide +kernel
theorem dl_1436 : decode code 1436 = .ok (.i2l, 1) := by decide +kernel
theorem dl_1437 : decode code 1437 = .ok (.lcmp, 1) := by decide +kernel
theorem dl_1438 : decode code 1438 = .ok (.ifCond .eq 5, 3) := by decide +kernel
theorem dl_1441 : decode code 1441 = .ok (.iconst 0, 1) := by decide +kernel
theorem dl_1442 : decode code 1442 = .ok (.ireturn, 1) := by decide +kernel
theorem dl_1443 : decode code 1443 = .ok (.goto 328, 3) := by decide +kernel
theorem dl_1446 : decode code 1446 = .ok (.aload_n 1, 1) := by decide +kernel
theorem dl_1447 : decode code 1447 = .ok (.aload_n 0, 1) := by decide +kernel
theorem dl_1448 : decode code 1448 = .ok (.iload 4, 2) := by decide +kernel
theorem dl_1450 : decode code 1450 = .ok (.iconst 1, 1) := by decide +kernel
theorem dl_1451 : decode code 1451 = .ok (.iadd, 1) := by decide +kernel
theorem dl_1452 : decode code 1452 = .ok (.iaload, 1) := by decide +kernel
theorem dl_1453 : decode code 1453 = .ok (.aload_n 3, 1) := by decide +kernel
theorem dl_1454 : decode code 1454 = .ok (.invokestatic 176, 3) := by decide +kernel
theorem dl_1457 : decode code 1457 = .ok (.istore 5, 2) := by decide +kernel
theorem dl_1459 : decode code 1459 = .ok (.aload_n 2, 1) := by decide +kernel
theorem dl_1460 : decode code 1460 = .ok (.aload_n 0, 1) := by decide +kernel
theorem dl_1461 : decode code 1461 = .ok (.iload 4, 2) := by decide +kernel
theorem dl_1463 : decode code 1463 = .ok (.iconst 1, 1) := by decide +kernel
theorem dl_1464 : decode code 1464 = .ok (.iadd, 1) := by decide +kernel
theorem dl_1465 : decode code 1465 = .ok (.iaload, 1) := by decide +kernel
theorem dl_1466 : decode code 1466 = .ok (.invokevirtual 178, 3) := by decide +kernel
theorem dl_1469 : decode code 1469 = .ok (.istore 6, 2) := by decide +kernel
theorem dl_1471 : decode code 1471 = .ok (.aload_n 2, 1) := by decide +kernel
theorem dl_1472 : decode code 1472 = .ok (.invokevirtual 91, 3) := by decide +kernel
theorem dl_1475 : decode code 1475 = .ok (.iload 5, 2) := by decide +kernel
theorem dl_1477 : decode code 1477 = .ok (.if_icmp .eq 5, 3) := by decide +kernel
theorem dl_1480 : decode code 1480 = .ok (.iconst 0, 1) := by decide +kernel
theorem dl_1481 : decode code 1481 = .ok (.ireturn, 1) := by decide +kernel
theorem dl_1482 : decode code 1482 = .ok (.iload 5, 2) := by decide +kernel
theorem dl_1484 : decode code 1484 = .ok (.ifCond .ne 15, 3) := by decide +kernel
theorem dl_1487 : decode code 1487 = .ok (.aload_n 3, 1) := by decide +kernel
theorem dl_1488 : decode code 1488 = .ok (.iconst 0, 1) := by decide +kernel
theorem dl_1489 : decode code 1489 = .ok (.laload, 1) := by decide +kernel
theorem dl_1490 : decode code 1490 = .ok (.iload 6, 2) := by decide +kernel
theorem dl_1492 : decode code 1492 = .ok (.i2l, 1) := by decide +kernel
theorem dl_1493 : decode code 1493 = .ok (.lcmp, 1) := by decide +kernel
theorem dl_1494 : decode code 1494 = .ok (.ifCond .eq 5, 3) := by decide +kernel
theorem dl_1497 : decode code 1497 = .ok (.iconst 0, 1) := by decide +kernel
theorem dl_1498 : decode code 1498 = .ok (.ireturn, 1) := by decide +kernel
theorem dl_1499 : decode code 1499 = .ok (.goto 272, 3) := by decide +kernel
theorem dl_1502 : decode code 1502 = .ok (.aload_n 1, 1) := by decide +kernel
theorem dl_1503 : decode code 1503 = .ok (.invokevirtual 179, 3) := by decide +kernel
theorem dl_1506 : decode code 1506 = .ok (.aload_n 2, 1) := by decide +kernel
theorem dl_1507 : decode code 1507 = .ok (.invokevirtual 182, 3) := by decide +kernel
theorem dl_1510 : decode code 1510 = .ok (.if_icmp .eq 261, 3) := by decide +kernel
theorem dl_1513 : decode code 1513 = .ok (.iconst 0, 1) := by decide +kernel
theorem dl_1514 : decode code 1514 = .ok (.ireturn, 1) := by decide +kernel
theorem dl_1515 : decode code 1515 = .ok (.aload_n 1, 1) := by decide +kernel
theorem dl_1516 : decode code 1516 = .ok (.aload_n 0, 1) := by decide +kernel
theorem dl_1517 : decode code 1517 = .ok (.iload 4, 2) := by decide +kernel
theorem dl_1519 : decode code 1519 = .ok (.iconst 1, 1) := by decide +kernel
theorem dl_1520 : decode code 1520 = .ok (.iadd, 1) := by decide +kernel
theorem dl_1521 : decode code 1521 = .ok (.iaload, 1) := by decide +kernel
theorem dl_1522 : decode code 1522 = .ok (.aload_n 3, 1) := by decide +kernel
theorem dl_1523 : decode code 1523 = .ok (.invokestatic 183, 3) := by decide +kernel
theorem dl_1526 : decode code 1526 = .ok (.istore 5, 2) := by decide +kernel
theorem dl_1528 : decode code 1528 = .ok (.aload_n 2, 1) := by decide +kernel
theorem dl_1529 : decode code 1529 = .ok (.aload_n 0, 1) := by decide +kernel
theorem dl_1530 : decode code 1530 = .ok (.iload 4, 2) := by decide +kernel
theorem dl_1532 : decode code 1532 = .ok (.iconst 1, 1) := by decide +kernel
theorem dl_1533 : decode code 1533 = .ok (.iadd, 1) := by decide +kernel
theorem dl_1534 : decode code 1534 = .ok (.iaload, 1) := by decide +kernel
theorem dl_1535 : decode code 1535 = .ok (.invokevirtual 185, 3) := by decide +kernel
theorem dl_1538 : decode code 1538 = .ok (.istore 6, 2) := by decide +kernel
theorem dl_1540 : decode code 1540 = .ok (.aload_n 2, 1) := by decide +kernel
theorem dl_1541 : decode code 1541 = .ok (.invokevirtual 91, 3) := by decide +kernel
theorem dl_1544 : decode code 1544 = .ok (.iload 5, 2) := by decide +kernel
theorem dl_1546 : decode code 1546 = .ok (.if_icmp .eq 5, 3) := by decide +kernel
theorem dl_1549 : decode code 1549 = .ok (.iconst 0, 1) := by decide +kernel
theorem dl_1550 : decode code 1550 = .ok (.ireturn, 1) := by decide +kernel
theorem dl_1551 : decode code 1551 = .ok (.iload 5, 2) := by decide +kernel
theorem dl_1553 : decode code 1553 = .ok (.ifCond .ne 15, 3) := by decide +kernel
theorem dl_1556 : decode code 1556 = .ok (.aload_n 3, 1) := by decide +kernel
theorem dl_1557 : decode code 1557 = .ok (.iconst 0, 1) := by decide +kernel
theorem dl_1558 : decode code 1558 = .ok (.laload, 1) := by decide +kernel
theorem dl_1559 : decode code 1559 = .ok (.iload 6, 2) := by decide +kernel
theorem dl_1561 : decode code 1561 = .ok (.i2l, 1) := by decide +kernel
theorem dl_1562 : decode code 1562 = .ok (.lcmp, 1) := by decide +kernel
theorem dl_1563 : decode code 1563 = .ok (.ifCond .eq 5, 3) := by decide +kernel
theorem dl_1566 : decode code 1566 = .ok (.iconst 0, 1) := by decide +kernel
theorem dl_1567 : decode code 1567 = .ok (.ireturn, 1) := by decide +kernel
theorem dl_1568 : decode code 1568 = .ok (.goto 203, 3) := by decide +kernel
theorem dl_1571 : decode code 1571 = .ok (.aload_n 1, 1) := by decide +kernel
theorem dl_1572 : decode code 1572 = .ok (.invokevirtual 186, 3) := by decide +kernel
theorem dl_1575 : decode code 1575 = .ok (.aload_n 2, 1) := by decide +kernel
theorem dl_1576 : decode code 1576 = .ok (.invokevirtual 189, 3) := by decide +kernel
theorem dl_1579 : decode code 1579 = .ok (.if_icmp .eq 192, 3) := by decide +kernel
theorem dl_1582 : decode code 1582 = .ok (.iconst 0, 1) := by decide +kernel
theorem dl_1583 : decode code 1583 = .ok (.ireturn, 1) := by decide +kernel
theorem dl_1584 : decode code 1584 = .ok (.aload_n 1, 1) := by decide +kernel
theorem dl_1585 : decode code 1585 = .ok (.aload_n 0, 1) := by decide +kernel
theorem dl_1586 : decode code 1586 = .ok (.iload 4, 2) := by decide +kernel
theorem dl_1588 : decode code 1588 = .ok (.iconst 1, 1) := by decide +kernel
theorem dl_1589 : decode code 1589 = .ok (.iadd, 1) := by decide +kernel
theorem dl_1590 : decode code 1590 = .ok (.iaload, 1) := by decide +kernel
theorem dl_1591 : decode code 1591 = .ok (.aload_n 3, 1) := by decide +kernel
theorem dl_1592 : decode code 1592 = .ok (.invokestatic 190, 3) := by decide +kernel
theorem dl_1595 : decode code 1595 = .ok (.istore 5, 2) := by decide +kernel
theorem dl_1597 : decode code 1597 = .ok (.aload_n 2, 1) := by decide +kernel
theorem dl_1598 : decode code 1598 = .ok (.aload_n 0, 1) := by decide +kernel
theorem dl_1599 : decode code 1599 = .ok (.iload 4, 2) := by decide +kernel
theorem dl_1601 : decode code 1601 = .ok (.iconst 1, 1) := by decide +kernel
theorem dl_1602 : decode code 1602 = .ok (.iadd, 1) := by decide +kernel
theorem dl_1603 : decode code 1603 = .ok (.iaload, 1) := by decide +kernel
theorem dl_1604 : decode code 1604 = .ok (.invokevirtual 192, 3) := by decide +kernel
theorem dl_1607 : decode code 1607 = .ok (.istore 6, 2) := by decide +kernel
theorem dl_1609 : decode code 1609 = .ok (.aload_n 2, 1) := by decide +kernel
theorem dl_1610 : decode code 1610 = .ok (.invokevirtual 91, 3) := by decide +kernel
theorem dl_1613 : decode code 1613 = .ok (.iload 5, 2) := by decide +kernel
theorem dl_1615 : decode code 1615 = .ok (.if_icmp .eq 5, 3) := by decide +kernel
theorem dl_1618 : decode code 1618 = .ok (.iconst 0, 1) := by decide +kernel
theorem dl_1619 : decode code 1619 = .ok (.ireturn, 1) := by decide +kernel
theorem dl_1620 : decode code 1620 = .ok (.iload 5, 2) := by decide +kernel
theorem dl_1622 : decode code 1622 = .ok (.ifCond .ne 15, 3) := by decide +kernel
theorem dl_1625 : decode code 1625 = .ok (.aload_n 3, 1) := by decide +kernel
theorem dl_1626 : decode code 1626 = .ok (.iconst 0, 1) := by decide +kernel
theorem dl_1627 : decode code 1627 = .ok (.laload, 1) := by decide +kernel
theorem dl_1628 : decode code 1628 = .ok (.iload 6, 2) := by decide +kernel
theorem dl_1630 : decode code 1630 = .ok (.i2l, 1) := by decide +kernel
theorem dl_1631 : decode code 1631 = .ok (.lcmp, 1) := by decide +kernel
theorem dl_1632 : decode code 1632 = .ok (.ifCond .eq 5, 3) := by decide +kernel
theorem dl_1635 : decode code 1635 = .ok (.iconst 0, 1) := by decide +kernel
theorem dl_1636 : decode code 1636 = .ok (.ireturn, 1) := by decide +kernel
theorem dl_1637 : decode code 1637 = .ok (.goto 134, 3) := by decide +kernel
theorem dl_1640 : decode code 1640 = .ok (.aload_n 1, 1) := by decide +kernel
theorem dl_1641 : decode code 1641 = .ok (.aload_n 0, 1) := by decide +kernel
theorem dl_1642 : decode code 1642 = .ok (.iload 4, 2) := by decide +kernel
theorem dl_1644 : decode code 1644 = .ok (.iconst 1, 1) := by decide +kernel
theorem dl_1645 : decode code 1645 = .ok (.iadd, 1) := by decide +kernel
theorem dl_1646 : decode code 1646 = .ok (.iaload, 1) := by decide +kernel
theorem dl_1647 : decode code 1647 = .ok (.invokevirtual 193, 3) := by decide +kernel
theorem dl_1650 : decode code 1650 = .ok (.aload_n 2, 1) := by decide +kernel
theorem dl_1651 : decode code 1651 = .ok (.aload_n 0, 1) := by decide +kernel
theorem dl_1652 : decode code 1652 = .ok (.iload 4, 2) := by decide +kernel
theorem dl_1654 : decode code 1654 = .ok (.iconst 1, 1) := by decide +kernel
theorem dl_1655 : decode code 1655 = .ok (.iadd, 1) := by decide +kernel
theorem dl_1656 : decode code 1656 = .ok (.iaload, 1) := by decide +kernel
theorem dl_1657 : decode code 1657 = .ok (.invokevirtual 196, 3) := by decide +kernel
theorem dl_1660 : decode code 1660 = .ok (.if_icmp .eq 111, 3) := by decide +kernel
theorem dl_1663 : decode code 1663 = .ok (.iconst 0, 1) := by decide +kernel
theorem dl_1664 : decode code 1664 = .ok (.ireturn, 1) := by decide +kernel
theorem dl_1665 : decode code 1665 = .ok (.aload_n 1, 1) := by decide +kernel
theorem dl_1666 : decode code 1666 = .ok (.aload_n 0, 1) := by decide +kernel
theorem dl_1667 : decode code 1667 = .ok (.iload 4, 2) := by decide +kernel
theorem dl_1669 : decode code 1669 = .ok (.iconst 1, 1) := by decide +kernel
theorem dl_1670 : decode code 1670 = .ok (.iadd, 1) := by decide +kernel
theorem dl_1671 : decode code 1671 = .ok (.iaload, 1) := by decide +kernel
theorem dl_1672 : decode code 1672 = .ok (.invokevirtual 197, 3) := by decide +kernel
theorem dl_1675 : decode code 1675 = .ok (.aload_n 2, 1) := by decide +kernel
theorem dl_1676 : decode code 1676 = .ok (.aload_n 0, 1) := by decide +kernel
theorem dl_1677 : decode code 1677 = .ok (.iload 4, 2) := by decide +kernel
theorem dl_1679 : decode code 1679 = .ok (.iconst 1, 1) := by decide +kernel
theorem dl_1680 : decode code 1680 = .ok (.iadd, 1) := by decide +kernel
theorem dl_1681 : decode code 1681 = .ok (.iaload, 1) := by decide +kernel
theorem dl_1682 : decode code 1682 = .ok (.invokevirtual 201, 3) := by decide +kernel
theorem dl_1685 : decode code 1685 = .ok (.if_icmp .eq 86, 3) := by decide +kernel
theorem dl_1688 : decode code 1688 = .ok (.iconst 0, 1) := by decide +kernel
theorem dl_1689 : decode code 1689 = .ok (.ireturn, 1) := by decide +kernel
theorem dl_1690 : decode code 1690 = .ok (.aload_n 1, 1) := by decide +kernel
theorem dl_1691 : decode code 1691 = .ok (.aload_n 0, 1) := by decide +kernel
theorem dl_1692 : decode code 1692 = .ok (.iload 4, 2) := by decide +kernel
theorem dl_1694 : decode code 1694 = .ok (.iconst 1, 1) := by decide +kernel
theorem dl_1695 : decode code 1695 = .ok (.iadd, 1) := by decide +kernel
theorem dl_1696 : decode code 1696 = .ok (.iaload, 1) := by decide +kernel
theorem dl_1697 : decode code 1697 = .ok (.invokevirtual 202, 3) := by decide +kernel
theorem dl_1700 : decode code 1700 = .ok (.aload_n 2, 1) := by decide +kernel
theorem dl_1701 : decode code 1701 = .ok (.aload_n 0, 1) := by decide +kernel
theorem dl_1702 : decode code 1702 = .ok (.iload 4, 2) := by decide +kernel
theorem dl_1704 : decode code 1704 = .ok (.iconst 1, 1) := by decide +kernel
theorem dl_1705 : decode code 1705 = .ok (.iadd, 1) := by decide +kernel
theorem dl_1706 : decode code 1706 = .ok (.iaload, 1) := by decide +kernel
theorem dl_1707 : decode code 1707 = .ok (.invokevirtual 205, 3) := by decide +kernel
theorem dl_1710 : decode code 1710 = .ok (.if_icmp .eq 61, 3) := by decide +kernel
theorem dl_1713 : decode code 1713 = .ok (.iconst 0, 1) := by decide +kernel
theorem dl_1714 : decode code 1714 = .ok (.ireturn, 1) := by decide +kernel
theorem dl_1715 : decode code 1715 = .ok (.aload_n 1, 1) := by decide +kernel
theorem dl_1716 : decode code 1716 = .ok (.aload_n 0, 1) := by decide +kernel
theorem dl_1717 : decode code 1717 = .ok (.iload 4, 2) := by decide +kernel
theorem dl_1719 : decode code 1719 = .ok (.iconst 1, 1) := by decide +kernel
theorem dl_1720 : decode code 1720 = .ok (.iadd, 1) := by decide +kernel
theorem dl_1721 : decode code 1721 = .ok (.iaload, 1) := by decide +kernel
theorem dl_1722 : decode code 1722 = .ok (.aload_n 3, 1) := by decide +kernel
theorem dl_1723 : decode code 1723 = .ok (.invokestatic 206, 3) := by decide +kernel
theorem dl_1726 : decode code 1726 = .ok (.istore 5, 2) := by decide +kernel
theorem dl_1728 : decode code 1728 = .ok (.aload_n 2, 1) := by decide +kernel
theorem dl_1729 : decode code 1729 = .ok (.aload_n 0, 1) := by decide +kernel
theorem dl_1730 : decode code 1730 = .ok (.iload 4, 2) := by decide +kernel
theorem dl_1732 : decode code 1732 = .ok (.iconst 1, 1) := by decide +kernel
theorem dl_1733 : decode code 1733 = .ok (.iadd, 1) := by decide +kernel
theorem dl_1734 : decode code 1734 = .ok (.iaload, 1) := by decide +kernel
theorem dl_1735 : decode code 1735 = .ok (.invokevirtual 208, 3) := by decide +kernel
theorem dl_1738 : decode code 1738 = .ok (.istore 6, 2) := by decide +kernel
theorem dl_1740 : decode code 1740 = .ok (.aload_n 2, 1) := by decide +kernel
theorem dl_1741 : decode code 1741 = .ok (.invokevirtual 91, 3) := by decide +kernel
theorem dl_1744 : decode code 1744 = .ok (.iload 5, 2) := by decide +kernel
theorem dl_1746 : decode code 1746 = .ok (.if_icmp .eq 5, 3) := by decide +kernel
theorem dl_1749 : decode code 1749 = .ok (.iconst 0, 1) := by decide +kernel
theorem dl_1750 : decode code 1750 = .ok (.ireturn, 1) := by decide +kernel
theorem dl_1751 : decode code 1751 = .ok (.iload 5, 2) := by decide +kernel
theorem dl_1753 : decode code 1753 = .ok (.ifCond .ne 15, 3) := by decide +kernel
theorem dl_1756 : decode code 1756 = .ok (.aload_n 3, 1) := by decide +kernel
theorem dl_1757 : decode code 1757 = .ok (.iconst 0, 1) := by decide +kernel
theorem dl_1758 : decode code 1758 = .ok (.laload, 1) := by decide +kernel
theorem dl_1759 : decode code 1759 = .ok (.iload 6, 2) := by decide +kernel
theorem dl_1761 : decode code 1761 = .ok (.i2l, 1) := by decide +kernel
theorem dl_1762 : decode code 1762 = .ok (.lcmp, 1) := by decide +kernel
theorem dl_1763 : decode code 1763 = .ok (.ifCond .eq 5, 3) := by decide +kernel
theorem dl_1766 : decode code 1766 = .ok (.iconst 0, 1) := by decide +kernel
theorem dl_1767 : decode code 1767 = .ok (.ireturn, 1) := by decide +kernel
theorem dl_1768 : decode code 1768 = .ok (.goto 3, 3) := by decide +kernel
theorem dl_1771 : decode code 1771 = .ok (.iinc 4 6, 3) := by decide +kernel
theorem dl_1774 : decode code 1774 = .ok (.goto (-1751), 3) := by decide +kernel
theorem dl_1777 : decode code 1777 = .ok (.iconst 1, 1) := by decide +kernel
theorem dl_1778 : decode code 1778 = .ok (.ireturn, 1) := by decide +kernel
